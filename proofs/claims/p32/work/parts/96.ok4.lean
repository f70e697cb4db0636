def X4 (σ : XS) : Prop := X4F ((σ.2.2.1 0)) ((σ.2.2.1 2)) ((σ.2.2.1 6)) ((σ.2.2.1 7)) ((σ.2.2.1 8)) ((σ.2.2.1 9)) ((σ.1 4)) ((σ.2.2.1 5))
def I4 (j : Nat) (σ : XS) (μ : MS) : Prop := I3 j σ μ ∧ X4 σ
theorem z_ab {m : Nat} : (0 : Int32).toInt.natAbs ≤ m := Nat.zero_le _
theorem X4_0 : X4 σ0 := ⟨⟨fun _ => z_ab, fun _ => z_ab, fun _ => z_ab, fun _ => z_ab⟩, fun _ => z_rg (by decide) (by decide), fun _ _ _ _ => rfl, fun _ _ _ _ => rfl, fun _ _ _ _ => rfl, Rt_0 _⟩
theorem I4_0 : I4 0 σ0 μ0 := ⟨I3_0, X4_0⟩
theorem fo_n {fo : Nat → Int32} {i : Nat} (h : 0 ≤ (fo i).toInt ∧ (fo i).toInt ≤ 15) : fo i = nI (MsF fo i) ∧ MsF fo i < 16 := by
  obtain ⟨m, m1, m2, m3, m4⟩ := mk_of h
  have e : MsF fo i = m := m4
  rw [e]
  exact ⟨m3, by omega⟩
theorem q_n {q : Int32} (h : 1 ≤ q.toInt ∧ q.toInt ≤ 4) : ∃ k, q = nI k ∧ 1 ≤ k ∧ k ≤ 4 := by
  obtain ⟨m, m1, m2, m3, m4⟩ := mk_of (x := q) (hi := 4) ⟨by omega, h.2⟩
  have := congrArg Int32.toInt m3
  rw [nI_toInt (by omega)] at this
  exact ⟨m, m3, by omega, by omega⟩
set_option maxRecDepth 10000 in
theorem x4_knot {j : Nat} {a1 : Int32} {σ σ2 : XS} {μ : MS} {v : Int32} (hI : I3 j σ μ) (h : X4 σ) (hx : sx_knot a1 σ = some (v, σ2)) : X4 σ2 := by
  obtain ⟨hX, hM, ⟨t0, t1, t2, t3, t4, t5, t6, t7, t8, tz⟩, n, en, hE, hO, hB⟩ := hI
  have em : ((μ.1 0)) = nI n := t0.symm.trans en
  have hn : n ≤ 14 := NetE_n hE
  have hX2 := hX
  unfold SafeX at hX2
  obtain ⟨h_t_net_size, h_t_order_size, h_t_order_knots, h_t_bags_size, h_t_law_size, h_t_going_left, h_t_plan_size, h_t_plan_knots, h_t_plan_others, h_t_plan_otherCount, h_t_plan_feeders, h_t_plan_feederCount, h_t_plan_places, h_t_plan_going_left, h_t_tally_openStates, h_t_tally_openCount, h_t_tally_picks, h_t_tally_strides, h_t_search_rest_left, h_lf⟩ := hX2
  obtain ⟨q, q1, q2, q3⟩ := q_n h_t_law_size
  unfold sx_knot at hx
  obtain ⟨r, hr, hx⟩ := cal_i hx
  cases hx
  obtain ⟨a, b⟩ := knot_4 hr h.1.1
  refine ⟨⟨a, h.1.2⟩, h.2.1, h.2.2.1, h.2.2.2.1, h.2.2.2.2.1, ?_⟩
  rcases b with e | e
  · show RtA r.2.2.2.2.2 _
    rw [e]; exact h.2.2.2.2.2
  · show RtA r.2.2.2.2.2 _
    rw [e]; exact Rt_0 _
set_option maxRecDepth 10000 in
theorem x4_edge {j : Nat} {a1 : Int32} {a2 : Int32} {a3 : Int32} {σ σ2 : XS} {μ : MS} {v : Int32} (hI : I3 j σ μ) (h : X4 σ) (hx : sx_edge a1 a2 a3 σ = some (v, σ2)) : X4 σ2 := by
  obtain ⟨hX, hM, ⟨t0, t1, t2, t3, t4, t5, t6, t7, t8, tz⟩, n, en, hE, hO, hB⟩ := hI
  have em : ((μ.1 0)) = nI n := t0.symm.trans en
  have hn : n ≤ 14 := NetE_n hE
  have hX2 := hX
  unfold SafeX at hX2
  obtain ⟨h_t_net_size, h_t_order_size, h_t_order_knots, h_t_bags_size, h_t_law_size, h_t_going_left, h_t_plan_size, h_t_plan_knots, h_t_plan_others, h_t_plan_otherCount, h_t_plan_feeders, h_t_plan_feederCount, h_t_plan_places, h_t_plan_going_left, h_t_tally_openStates, h_t_tally_openCount, h_t_tally_picks, h_t_tally_strides, h_t_search_rest_left, h_lf⟩ := hX2
  obtain ⟨q, q1, q2, q3⟩ := q_n h_t_law_size
  unfold sx_edge at hx
  obtain ⟨r, hr, hx⟩ := cal_i hx
  cases hx
  rw [en] at hr
  obtain ⟨a, b⟩ := edge_4 hn hr h.1.2.1 h.2.2.1
  exact ⟨⟨h.1.1, a, h.1.2.2⟩, h.2.1, b, h.2.2.2⟩
set_option maxRecDepth 10000 in
theorem x4_cut {j : Nat} {a1 : Int32} {a2 : Int32} {σ σ2 : XS} {μ : MS} {v : Int32} (hI : I3 j σ μ) (h : X4 σ) (hx : sx_cut a1 a2 σ = some (v, σ2)) : X4 σ2 := by
  unfold sx_cut at hx
  obtain ⟨r, hr, hx⟩ := cal_i hx
  cases hx
  exact h
set_option maxRecDepth 10000 in
theorem x4_weigh {j : Nat} {a1 : Int32} {a2 : Int32} {σ σ2 : XS} {μ : MS} {v : Int32} (hI : I3 j σ μ) (h : X4 σ) (hx : sx_weigh a1 a2 σ = some (v, σ2)) : X4 σ2 := by
  obtain ⟨hX, hM, ⟨t0, t1, t2, t3, t4, t5, t6, t7, t8, tz⟩, n, en, hE, hO, hB⟩ := hI
  have em : ((μ.1 0)) = nI n := t0.symm.trans en
  have hn : n ≤ 14 := NetE_n hE
  have hX2 := hX
  unfold SafeX at hX2
  obtain ⟨h_t_net_size, h_t_order_size, h_t_order_knots, h_t_bags_size, h_t_law_size, h_t_going_left, h_t_plan_size, h_t_plan_knots, h_t_plan_others, h_t_plan_otherCount, h_t_plan_feeders, h_t_plan_feederCount, h_t_plan_places, h_t_plan_going_left, h_t_tally_openStates, h_t_tally_openCount, h_t_tally_picks, h_t_tally_strides, h_t_search_rest_left, h_lf⟩ := hX2
  obtain ⟨q, q1, q2, q3⟩ := q_n h_t_law_size
  unfold sx_weigh at hx
  obtain ⟨r, hr, hx⟩ := cal_i hx
  cases hx
  exact ⟨⟨weigh_4 hr h.1.1, h.1.2⟩, h.2⟩
set_option maxRecDepth 10000 in
theorem x4_weight {j : Nat} {a1 : Int32} {a2 : Int32} {σ σ2 : XS} {μ : MS} {v : Int32} (hI : I3 j σ μ) (h : X4 σ) (hx : sx_weight a1 a2 σ = some (v, σ2)) : X4 σ2 := by
  unfold sx_weight at hx
  obtain ⟨r, hr, hx⟩ := cal_i hx
  cases hx
  exact h
set_option maxRecDepth 10000 in
theorem x4_beside {j : Nat} {a1 : Int32} {σ σ2 : XS} {μ : MS} {v : Int32} (hI : I3 j σ μ) (h : X4 σ) (hx : sx_beside a1 σ = some (v, σ2)) : X4 σ2 := by
  unfold sx_beside at hx
  obtain ⟨r, hr, hx⟩ := cal_i hx
  cases hx
  exact h
set_option maxRecDepth 10000 in
theorem x4_put {j : Nat} {a1 : Int32} {σ σ2 : XS} {μ : MS} {v : Int32} (hI : I3 j σ μ) (h : X4 σ) (hx : sx_put a1 σ = some (v, σ2)) : X4 σ2 := by
  unfold sx_put at hx
  obtain ⟨r, hr, hx⟩ := cal_i hx
  cases hx
  exact h
set_option maxRecDepth 10000 in
theorem x4_wipe {j : Nat}  {σ σ2 : XS} {μ : MS} {v : Int32} (hI : I3 j σ μ) (h : X4 σ) (hx : sx_wipe  σ = some (v, σ2)) : X4 σ2 := by
  unfold sx_wipe at hx
  obtain ⟨r, hr, hx⟩ := cal_i hx
  cases hx
  exact h
set_option maxRecDepth 10000 in
theorem x4_make {j : Nat}  {σ σ2 : XS} {μ : MS} {v : Int32} (hI : I3 j σ μ) (h : X4 σ) (hx : sx_make  σ = some (v, σ2)) : X4 σ2 := by
  obtain ⟨hX, hM, ⟨t0, t1, t2, t3, t4, t5, t6, t7, t8, tz⟩, n, en, hE, hO, hB⟩ := hI
  have em : ((μ.1 0)) = nI n := t0.symm.trans en
  have hn : n ≤ 14 := NetE_n hE
  have hX2 := hX
  unfold SafeX at hX2
  obtain ⟨h_t_net_size, h_t_order_size, h_t_order_knots, h_t_bags_size, h_t_law_size, h_t_going_left, h_t_plan_size, h_t_plan_knots, h_t_plan_others, h_t_plan_otherCount, h_t_plan_feeders, h_t_plan_feederCount, h_t_plan_places, h_t_plan_going_left, h_t_tally_openStates, h_t_tally_openCount, h_t_tally_picks, h_t_tally_strides, h_t_search_rest_left, h_lf⟩ := hX2
  obtain ⟨q, q1, q2, q3⟩ := q_n h_t_law_size
  unfold sx_make at hx
  obtain ⟨r, hr, hx⟩ := cal_i hx
  cases hx
  rw [en] at hr
  obtain ⟨B, cc, N, _, _⟩ := id hE
  exact ⟨h.1, h.2.1, h.2.2.1, h.2.2.2.1, h.2.2.2.2.1, make_4 N hO h.2.2.2.2.2 hr⟩
set_option maxRecDepth 10000 in
theorem x4_fills {j : Nat}  {σ σ2 : XS} {μ : MS} {v : Int32} (hI : I3 j σ μ) (h : X4 σ) (hx : sx_fills  σ = some (v, σ2)) : X4 σ2 := by
  unfold sx_fills at hx
  obtain ⟨r, hr, hx⟩ := cal_i hx
  cases hx
  exact h
set_option maxRecDepth 10000 in
theorem x4_fewest {j : Nat}  {σ σ2 : XS} {μ : MS} {v : Int32} (hI : I3 j σ μ) (h : X4 σ) (hx : sx_fewest  σ = some (v, σ2)) : X4 σ2 := by
  unfold sx_fewest at hx
  obtain ⟨r, hr, hx⟩ := cal_i hx
  cases hx
  exact h
set_option maxRecDepth 10000 in
theorem x4_least {j : Nat}  {σ σ2 : XS} {μ : MS} {v : Int32} (hI : I3 j σ μ) (h : X4 σ) (hx : sx_least  σ = some (v, σ2)) : X4 σ2 := by
  unfold sx_least at hx
  obtain ⟨r, hr, hx⟩ := cal_i hx
  cases hx
  exact h
set_option maxRecDepth 10000 in
theorem x4_row {j : Nat} {a1 : Int32} {σ σ2 : XS} {μ : MS} {v : Int32} (hI : I3 j σ μ) (h : X4 σ) (hx : sx_row a1 σ = some (v, σ2)) : X4 σ2 := by
  unfold sx_row at hx
  obtain ⟨r, hr, hx⟩ := cal_i hx
  cases hx
  exact h
set_option maxRecDepth 10000 in
theorem x4_below {j : Nat}  {σ σ2 : XS} {μ : MS} {v : Int32} (hI : I3 j σ μ) (h : X4 σ) (hx : sx_below  σ = some (v, σ2)) : X4 σ2 := by
  unfold sx_below at hx
  obtain ⟨r, hr, hx⟩ := cal_i hx
  cases hx
  exact h
set_option maxRecDepth 10000 in
theorem x4_clear {j : Nat}  {σ σ2 : XS} {μ : MS} {v : Int32} (hI : I3 j σ μ) (h : X4 σ) (hx : sx_clear  σ = some (v, σ2)) : X4 σ2 := by
  obtain ⟨hX, hM, ⟨t0, t1, t2, t3, t4, t5, t6, t7, t8, tz⟩, n, en, hE, hO, hB⟩ := hI
  have em : ((μ.1 0)) = nI n := t0.symm.trans en
  have hn : n ≤ 14 := NetE_n hE
  have hX2 := hX
  unfold SafeX at hX2
  obtain ⟨h_t_net_size, h_t_order_size, h_t_order_knots, h_t_bags_size, h_t_law_size, h_t_going_left, h_t_plan_size, h_t_plan_knots, h_t_plan_others, h_t_plan_otherCount, h_t_plan_feeders, h_t_plan_feederCount, h_t_plan_places, h_t_plan_going_left, h_t_tally_openStates, h_t_tally_openCount, h_t_tally_picks, h_t_tally_strides, h_t_search_rest_left, h_lf⟩ := hX2
  obtain ⟨q, q1, q2, q3⟩ := q_n h_t_law_size
  unfold sx_clear at hx
  obtain ⟨r, hr, hx⟩ := cal_i hx
  cases hx
  unfold f_X8_clear f_X0_empty at hr
  rw [bnd_s, bnd_s, cal_s] at hr
  cases hr
  exact ⟨h.1, h.2.1, h.2.2.1, h.2.2.2.1, h.2.2.2.2.1, Rt_0 _⟩
set_option maxRecDepth 10000 in
theorem x4_bag {j : Nat} {a1 : Int32} {σ σ2 : XS} {μ : MS} {v : Int32} (hI : I3 j σ μ) (h : X4 σ) (hx : sx_bag a1 σ = some (v, σ2)) : X4 σ2 := by
  obtain ⟨hX, hM, ⟨t0, t1, t2, t3, t4, t5, t6, t7, t8, tz⟩, n, en, hE, hO, hB⟩ := hI
  have em : ((μ.1 0)) = nI n := t0.symm.trans en
  have hn : n ≤ 14 := NetE_n hE
  have hX2 := hX
  unfold SafeX at hX2
  obtain ⟨h_t_net_size, h_t_order_size, h_t_order_knots, h_t_bags_size, h_t_law_size, h_t_going_left, h_t_plan_size, h_t_plan_knots, h_t_plan_others, h_t_plan_otherCount, h_t_plan_feeders, h_t_plan_feederCount, h_t_plan_places, h_t_plan_going_left, h_t_tally_openStates, h_t_tally_openCount, h_t_tally_picks, h_t_tally_strides, h_t_search_rest_left, h_lf⟩ := hX2
  obtain ⟨q, q1, q2, q3⟩ := q_n h_t_law_size
  unfold sx_bag at hx
  obtain ⟨r, hr, hx⟩ := cal_i hx
  cases hx
  rw [en] at hr
  exact ⟨h.1, h.2.1, h.2.2.1, h.2.2.2.1, h.2.2.2.2.1, bag_4 hB h.2.2.2.2.2 hr⟩
set_option maxRecDepth 10000 in
theorem x4_hang {j : Nat} {a1 : Int32} {a2 : Int32} {σ σ2 : XS} {μ : MS} {v : Int32} (hI : I3 j σ μ) (h : X4 σ) (hx : sx_hang a1 a2 σ = some (v, σ2)) : X4 σ2 := by
  obtain ⟨hX, hM, ⟨t0, t1, t2, t3, t4, t5, t6, t7, t8, tz⟩, n, en, hE, hO, hB⟩ := hI
  have em : ((μ.1 0)) = nI n := t0.symm.trans en
  have hn : n ≤ 14 := NetE_n hE
  have hX2 := hX
  unfold SafeX at hX2
  obtain ⟨h_t_net_size, h_t_order_size, h_t_order_knots, h_t_bags_size, h_t_law_size, h_t_going_left, h_t_plan_size, h_t_plan_knots, h_t_plan_others, h_t_plan_otherCount, h_t_plan_feeders, h_t_plan_feederCount, h_t_plan_places, h_t_plan_going_left, h_t_tally_openStates, h_t_tally_openCount, h_t_tally_picks, h_t_tally_strides, h_t_search_rest_left, h_lf⟩ := hX2
  obtain ⟨q, q1, q2, q3⟩ := q_n h_t_law_size
  unfold sx_hang at hx
  obtain ⟨r, hr, hx⟩ := cal_i hx
  cases hx
  exact ⟨h.1, h.2.1, h.2.2.1, h.2.2.2.1, h.2.2.2.2.1, hang_4 hB h.2.2.2.2.2 hr⟩
set_option maxRecDepth 10000 in
theorem x4_bagged {j : Nat} {a1 : Int32} {a2 : Int32} {σ σ2 : XS} {μ : MS} {v : Int32} (hI : I3 j σ μ) (h : X4 σ) (hx : sx_bagged a1 a2 σ = some (v, σ2)) : X4 σ2 := by
  unfold sx_bagged at hx
  obtain ⟨r, hr, hx⟩ := cal_i hx
  cases hx
  exact h
set_option maxRecDepth 10000 in
theorem x4_sound {j : Nat}  {σ σ2 : XS} {μ : MS} {v : Int32} (hI : I3 j σ μ) (h : X4 σ) (hx : sx_sound  σ = some (v, σ2)) : X4 σ2 := by
  unfold sx_sound at hx
  obtain ⟨r, hr, hx⟩ := cal_i hx
  cases hx
  exact h
set_option maxRecDepth 10000 in
theorem x4_width {j : Nat}  {σ σ2 : XS} {μ : MS} {v : Int32} (hI : I3 j σ μ) (h : X4 σ) (hx : sx_width  σ = some (v, σ2)) : X4 σ2 := by
  unfold sx_width at hx
  obtain ⟨r, hr, hx⟩ := cal_i hx
  cases hx
  exact h
set_option maxRecDepth 10000 in
theorem x4_separator {j : Nat}  {σ σ2 : XS} {μ : MS} {v : Int32} (hI : I3 j σ μ) (h : X4 σ) (hx : sx_separator  σ = some (v, σ2)) : X4 σ2 := by
  unfold sx_separator at hx
  obtain ⟨r, hr, hx⟩ := cal_i hx
  cases hx
  exact h
set_option maxRecDepth 10000 in
theorem x4_states {j : Nat} {a1 : Int32} {σ σ2 : XS} {μ : MS} {v : Int32} (hI : I3 j σ μ) (h : X4 σ) (hx : sx_states a1 σ = some (v, σ2)) : X4 σ2 := by
  obtain ⟨hX, hM, ⟨t0, t1, t2, t3, t4, t5, t6, t7, t8, tz⟩, n, en, hE, hO, hB⟩ := hI
  have em : ((μ.1 0)) = nI n := t0.symm.trans en
  have hn : n ≤ 14 := NetE_n hE
  have hX2 := hX
  unfold SafeX at hX2
  obtain ⟨h_t_net_size, h_t_order_size, h_t_order_knots, h_t_bags_size, h_t_law_size, h_t_going_left, h_t_plan_size, h_t_plan_knots, h_t_plan_others, h_t_plan_otherCount, h_t_plan_feeders, h_t_plan_feederCount, h_t_plan_places, h_t_plan_going_left, h_t_tally_openStates, h_t_tally_openCount, h_t_tally_picks, h_t_tally_strides, h_t_search_rest_left, h_lf⟩ := hX2
  obtain ⟨q, q1, q2, q3⟩ := q_n h_t_law_size
  unfold sx_states at hx
  obtain ⟨r, hr, hx⟩ := cal_i hx
  cases hx
  obtain ⟨a, b, c, d, e⟩ := states_4 hr h.1.2.2.1 h.1.2.2.2 h.2.1 h.2.2.2.1 h.2.2.2.2.1
  exact ⟨⟨h.1.1, h.1.2.1, a, b⟩, c, h.2.2.1, d, e, h.2.2.2.2.2⟩
set_option maxRecDepth 10000 in
theorem x4_factor {j : Nat} {a1 : Int32} {a2 : Int32} {σ σ2 : XS} {μ : MS} {v : Int32} (hI : I3 j σ μ) (h : X4 σ) (hx : sx_factor a1 a2 σ = some (v, σ2)) : X4 σ2 := by
  obtain ⟨hX, hM, ⟨t0, t1, t2, t3, t4, t5, t6, t7, t8, tz⟩, n, en, hE, hO, hB⟩ := hI
  have em : ((μ.1 0)) = nI n := t0.symm.trans en
  have hn : n ≤ 14 := NetE_n hE
  have hX2 := hX
  unfold SafeX at hX2
  obtain ⟨h_t_net_size, h_t_order_size, h_t_order_knots, h_t_bags_size, h_t_law_size, h_t_going_left, h_t_plan_size, h_t_plan_knots, h_t_plan_others, h_t_plan_otherCount, h_t_plan_feeders, h_t_plan_feederCount, h_t_plan_places, h_t_plan_going_left, h_t_tally_openStates, h_t_tally_openCount, h_t_tally_picks, h_t_tally_strides, h_t_search_rest_left, h_lf⟩ := hX2
  obtain ⟨q, q1, q2, q3⟩ := q_n h_t_law_size
  unfold sx_factor at hx
  obtain ⟨r, hr, hx⟩ := cal_i hx
  cases hx
  exact ⟨⟨h.1.1, h.1.2.1, factor_4 hr h.1.2.2.1, h.1.2.2.2⟩, h.2⟩
set_option maxRecDepth 10000 in
theorem x4_pair {j : Nat} {a1 : Int32} {a2 : Int32} {a3 : Int32} {a4 : Int32} {σ σ2 : XS} {μ : MS} {v : Int32} (hI : I3 j σ μ) (h : X4 σ) (hx : sx_pair a1 a2 a3 a4 σ = some (v, σ2)) : X4 σ2 := by
  obtain ⟨hX, hM, ⟨t0, t1, t2, t3, t4, t5, t6, t7, t8, tz⟩, n, en, hE, hO, hB⟩ := hI
  have em : ((μ.1 0)) = nI n := t0.symm.trans en
  have hn : n ≤ 14 := NetE_n hE
  have hX2 := hX
  unfold SafeX at hX2
  obtain ⟨h_t_net_size, h_t_order_size, h_t_order_knots, h_t_bags_size, h_t_law_size, h_t_going_left, h_t_plan_size, h_t_plan_knots, h_t_plan_others, h_t_plan_otherCount, h_t_plan_feeders, h_t_plan_feederCount, h_t_plan_places, h_t_plan_going_left, h_t_tally_openStates, h_t_tally_openCount, h_t_tally_picks, h_t_tally_strides, h_t_search_rest_left, h_lf⟩ := hX2
  obtain ⟨q, q1, q2, q3⟩ := q_n h_t_law_size
  unfold sx_pair at hx
  obtain ⟨r, hr, hx⟩ := cal_i hx
  cases hx
  rw [q1] at hr
  obtain ⟨a, b, c⟩ := pair_4 q3 hr h.1.2.2.2 h.2.2.2.1 h.2.2.2.2.1
  exact ⟨⟨h.1.1, h.1.2.1, h.1.2.2.1, a⟩, h.2.1, h.2.2.1, b, c, h.2.2.2.2.2⟩
set_option maxRecDepth 10000 in
theorem x4_forbid {j : Nat} {a1 : Int32} {a2 : Int32} {σ σ2 : XS} {μ : MS} {v : Int32} (hI : I3 j σ μ) (h : X4 σ) (hx : sx_forbid a1 a2 σ = some (v, σ2)) : X4 σ2 := by
  obtain ⟨hX, hM, ⟨t0, t1, t2, t3, t4, t5, t6, t7, t8, tz⟩, n, en, hE, hO, hB⟩ := hI
  have em : ((μ.1 0)) = nI n := t0.symm.trans en
  have hn : n ≤ 14 := NetE_n hE
  have hX2 := hX
  unfold SafeX at hX2
  obtain ⟨h_t_net_size, h_t_order_size, h_t_order_knots, h_t_bags_size, h_t_law_size, h_t_going_left, h_t_plan_size, h_t_plan_knots, h_t_plan_others, h_t_plan_otherCount, h_t_plan_feeders, h_t_plan_feederCount, h_t_plan_places, h_t_plan_going_left, h_t_tally_openStates, h_t_tally_openCount, h_t_tally_picks, h_t_tally_strides, h_t_search_rest_left, h_lf⟩ := hX2
  obtain ⟨q, q1, q2, q3⟩ := q_n h_t_law_size
  unfold sx_forbid at hx
  obtain ⟨r, hr, hx⟩ := cal_i hx
  cases hx
  exact ⟨h.1, forbid_4 hr h.2.1, h.2.2⟩
set_option maxRecDepth 10000 in
theorem x4_ways {j : Nat}  {σ σ2 : XS} {μ : MS} {v : Int64} (hI : I3 j σ μ) (h : X4 σ) (hx : sx_ways  σ = some (v, σ2)) : X4 σ2 := by
  unfold sx_ways at hx
  obtain ⟨r, hr, hx⟩ := cal_i hx
  cases hx
  exact h
set_option maxRecDepth 10000 in
theorem x4_best {j : Nat} {a1 : Int32} {σ σ2 : XS} {μ : MS} {v : Int64} (hI : I3 j σ μ) (h : X4 σ) (hx : sx_best a1 σ = some (v, σ2)) : X4 σ2 := by
  unfold sx_best at hx
  obtain ⟨r, hr, hx⟩ := cal_i hx
  cases hx
  exact h
set_option maxRecDepth 10000 in
theorem x4_bests {j : Nat} {a1 : Int32} {σ σ2 : XS} {μ : MS} {v : Int64} (hI : I3 j σ μ) (h : X4 σ) (hx : sx_bests a1 σ = some (v, σ2)) : X4 σ2 := by
  unfold sx_bests at hx
  obtain ⟨r, hr, hx⟩ := cal_i hx
  cases hx
  exact h
set_option maxRecDepth 10000 in
theorem x4_choice {j : Nat} {a1 : Int32} {a2 : Int32} {σ σ2 : XS} {μ : MS} {v : Int32} (hI : I3 j σ μ) (h : X4 σ) (hx : sx_choice a1 a2 σ = some (v, σ2)) : X4 σ2 := by
  unfold sx_choice at hx
  obtain ⟨r, hr, hx⟩ := cal_i hx
  cases hx
  exact h
set_option maxRecDepth 10000 in
theorem x4_drawn {j : Nat} {a1 : Int64} {a3 : Int32} {σ σ2 : XS} {μ : MS} {v : Int32} (hI : I3 j σ μ) (h : X4 σ) (hx : sx_drawn a1 a3 σ = some (v, σ2)) : X4 σ2 := by
  unfold sx_drawn at hx
  obtain ⟨r, hr, hx⟩ := cal_i hx
  cases hx
  exact h
set_option maxRecDepth 10000 in
theorem x4_share {j : Nat} {a1 : Int32} {a2 : Int32} {σ σ2 : XS} {μ : MS} {v : Int64} (hI : I3 j σ μ) (h : X4 σ) (hx : sx_share a1 a2 σ = some (v, σ2)) : X4 σ2 := by
  unfold sx_share at hx
  obtain ⟨r, hr, hx⟩ := cal_i hx
  cases hx
  exact h
set_option maxRecDepth 10000 in
theorem x4_count {j : Nat} {a1 : Int32} {σ σ2 : XS} {μ : MS} {v : Int32} (hI : I3 j σ μ) (h : X4 σ) (hx : sx_count a1 σ = some (v, σ2)) : X4 σ2 := by
  unfold sx_count at hx
  obtain ⟨r, hr, hx⟩ := cal_i hx
  cases hx
  exact h
set_option maxRecDepth 10000 in
theorem w3_25 (j : Nat) : ∀  (σ : XS) (μ : MS), I3 j σ μ → ∃ v σ2 w μ2, sx_ways  σ = some (v, σ2) ∧ sm_ways  μ = some (w, μ2) ∧ True ∧ I3 (j + 1) σ2 μ2 := by
  intro  σ μ hI
  obtain ⟨hX, hM, ⟨t0, t1, t2, t3, t4, t5, t6, t7, t8, tz⟩, n, en, hE, hO, hB⟩ := hI
  have em : ((μ.1 0)) = nI n := t0.symm.trans en
  have hn : n ≤ 14 := NetE_n hE
  obtain ⟨⟨v, σ2⟩, hx, hX2, k0, k1, k2, k3, k4, k5, k6, k7, k8, k9, k10, k11, k12, k13, k14, k15⟩ := xk_ways  σ hX
  obtain ⟨⟨w, μ2⟩, hm, hM2, l0, l1, l2, l3, l4, l5, l6, l7, l8, l9, l10, l11, l12, l13⟩ := mk_ways  μ hM
  refine ⟨v, σ2, w, μ2, hx, hm, trivial, hX2, hM2, ⟨k0.trans (t0.trans l0.symm), k1.trans (t1.trans l1.symm), k2.trans (t2.trans l2.symm), k3.trans (t3.trans l3.symm), k4.trans (t4.trans l4.symm), k5.trans (t5.trans l5.symm), k6.trans (t6.trans l6.symm), k7.trans (t7.trans l7.symm), k8.trans (t8.trans l8.symm), fun i hi => (congrFun k2 i).trans (tz i (by rw [← k0]; exact hi))⟩, n, k0.trans en, ?_, ?_, ?_⟩
  · show NetE n ((σ2.2.2.1 1)) ((σ2.1 1))
    rw [show (σ2.2.2.1 1) = _ from k2, show (σ2.1 1) = _ from k9]; exact hE
  · show OrdT n ((σ2.1 2)) ((σ2.1 3)) ((μ2.1 1)) ((σ2.2.2.1 3)) ((μ2.2.2.1 3))
    rw [show (σ2.1 2) = _ from k10, show (σ2.1 3) = _ from k11, show (μ2.1 1) = _ from l9, show (σ2.2.2.1 3) = _ from k12, show (μ2.2.2.1 3) = _ from l10]; exact hO
  · show BagT n ((σ2.1 4)) ((μ2.1 2)) ((σ2.2.2.1 4)) ((σ2.2.2.1 5)) ((μ2.2.2.1 4)) ((μ2.2.2.1 5))
    rw [show (σ2.1 4) = _ from k13, show (μ2.1 2) = _ from l11, show (σ2.2.2.1 4) = _ from k14, show (σ2.2.2.1 5) = _ from k15, show (μ2.2.2.1 4) = _ from l12, show (μ2.2.2.1 5) = _ from l13]; exact hB
set_option maxRecDepth 10000 in
theorem w3_26 (j : Nat) : ∀ (a1 : Int32) (σ : XS) (μ : MS), (a1 = 0 ∨ a1 = 1) → I3 j σ μ → ∃ v σ2 w μ2, sx_best a1 σ = some (v, σ2) ∧ sm_best a1 μ = some (w, μ2) ∧ True ∧ I3 (j + 1) σ2 μ2 := by
  intro a1 σ μ _ hI
  obtain ⟨hX, hM, ⟨t0, t1, t2, t3, t4, t5, t6, t7, t8, tz⟩, n, en, hE, hO, hB⟩ := hI
  have em : ((μ.1 0)) = nI n := t0.symm.trans en
  have hn : n ≤ 14 := NetE_n hE
  obtain ⟨⟨v, σ2⟩, hx, hX2, k0, k1, k2, k3, k4, k5, k6, k7, k8, k9, k10, k11, k12, k13, k14, k15⟩ := xk_best a1 σ hX
  obtain ⟨⟨w, μ2⟩, hm, hM2, l0, l1, l2, l3, l4, l5, l6, l7, l8, l9, l10, l11, l12, l13⟩ := mk_best a1 μ hM
  refine ⟨v, σ2, w, μ2, hx, hm, trivial, hX2, hM2, ⟨k0.trans (t0.trans l0.symm), k1.trans (t1.trans l1.symm), k2.trans (t2.trans l2.symm), k3.trans (t3.trans l3.symm), k4.trans (t4.trans l4.symm), k5.trans (t5.trans l5.symm), k6.trans (t6.trans l6.symm), k7.trans (t7.trans l7.symm), k8.trans (t8.trans l8.symm), fun i hi => (congrFun k2 i).trans (tz i (by rw [← k0]; exact hi))⟩, n, k0.trans en, ?_, ?_, ?_⟩
  · show NetE n ((σ2.2.2.1 1)) ((σ2.1 1))
    rw [show (σ2.2.2.1 1) = _ from k2, show (σ2.1 1) = _ from k9]; exact hE
  · show OrdT n ((σ2.1 2)) ((σ2.1 3)) ((μ2.1 1)) ((σ2.2.2.1 3)) ((μ2.2.2.1 3))
    rw [show (σ2.1 2) = _ from k10, show (σ2.1 3) = _ from k11, show (μ2.1 1) = _ from l9, show (σ2.2.2.1 3) = _ from k12, show (μ2.2.2.1 3) = _ from l10]; exact hO
  · show BagT n ((σ2.1 4)) ((μ2.1 2)) ((σ2.2.2.1 4)) ((σ2.2.2.1 5)) ((μ2.2.2.1 4)) ((μ2.2.2.1 5))
    rw [show (σ2.1 4) = _ from k13, show (μ2.1 2) = _ from l11, show (σ2.2.2.1 4) = _ from k14, show (σ2.2.2.1 5) = _ from k15, show (μ2.2.2.1 4) = _ from l12, show (μ2.2.2.1 5) = _ from l13]; exact hB
set_option maxRecDepth 10000 in
theorem w3_27 (j : Nat) : ∀ (a1 : Int32) (σ : XS) (μ : MS), (a1 = 0 ∨ a1 = 1) → I3 j σ μ → ∃ v σ2 w μ2, sx_bests a1 σ = some (v, σ2) ∧ sm_bests a1 μ = some (w, μ2) ∧ True ∧ I3 (j + 1) σ2 μ2 := by
  intro a1 σ μ _ hI
  obtain ⟨hX, hM, ⟨t0, t1, t2, t3, t4, t5, t6, t7, t8, tz⟩, n, en, hE, hO, hB⟩ := hI
  have em : ((μ.1 0)) = nI n := t0.symm.trans en
  have hn : n ≤ 14 := NetE_n hE
  obtain ⟨⟨v, σ2⟩, hx, hX2, k0, k1, k2, k3, k4, k5, k6, k7, k8, k9, k10, k11, k12, k13, k14, k15⟩ := xk_bests a1 σ hX
  obtain ⟨⟨w, μ2⟩, hm, hM2, l0, l1, l2, l3, l4, l5, l6, l7, l8, l9, l10, l11, l12, l13⟩ := mk_bests a1 μ hM
  refine ⟨v, σ2, w, μ2, hx, hm, trivial, hX2, hM2, ⟨k0.trans (t0.trans l0.symm), k1.trans (t1.trans l1.symm), k2.trans (t2.trans l2.symm), k3.trans (t3.trans l3.symm), k4.trans (t4.trans l4.symm), k5.trans (t5.trans l5.symm), k6.trans (t6.trans l6.symm), k7.trans (t7.trans l7.symm), k8.trans (t8.trans l8.symm), fun i hi => (congrFun k2 i).trans (tz i (by rw [← k0]; exact hi))⟩, n, k0.trans en, ?_, ?_, ?_⟩
  · show NetE n ((σ2.2.2.1 1)) ((σ2.1 1))
    rw [show (σ2.2.2.1 1) = _ from k2, show (σ2.1 1) = _ from k9]; exact hE
  · show OrdT n ((σ2.1 2)) ((σ2.1 3)) ((μ2.1 1)) ((σ2.2.2.1 3)) ((μ2.2.2.1 3))
    rw [show (σ2.1 2) = _ from k10, show (σ2.1 3) = _ from k11, show (μ2.1 1) = _ from l9, show (σ2.2.2.1 3) = _ from k12, show (μ2.2.2.1 3) = _ from l10]; exact hO
  · show BagT n ((σ2.1 4)) ((μ2.1 2)) ((σ2.2.2.1 4)) ((σ2.2.2.1 5)) ((μ2.2.2.1 4)) ((μ2.2.2.1 5))
    rw [show (σ2.1 4) = _ from k13, show (μ2.1 2) = _ from l11, show (σ2.2.2.1 4) = _ from k14, show (σ2.2.2.1 5) = _ from k15, show (μ2.2.2.1 4) = _ from l12, show (μ2.2.2.1 5) = _ from l13]; exact hB
set_option maxRecDepth 10000 in
theorem w3_28 (j : Nat) : ∀ (a1 : Int32) (a2 : Int32) (σ : XS) (μ : MS), (a1 = 0 ∨ a1 = 1) → I3 j σ μ → ∃ v σ2 w μ2, sx_choice a1 a2 σ = some (v, σ2) ∧ sm_choice a1 a2 μ = some (w, μ2) ∧ True ∧ I3 (j + 1) σ2 μ2 := by
  intro a1 a2 σ μ _ hI
  obtain ⟨hX, hM, ⟨t0, t1, t2, t3, t4, t5, t6, t7, t8, tz⟩, n, en, hE, hO, hB⟩ := hI
  have em : ((μ.1 0)) = nI n := t0.symm.trans en
  have hn : n ≤ 14 := NetE_n hE
  obtain ⟨⟨v, σ2⟩, hx, hX2, k0, k1, k2, k3, k4, k5, k6, k7, k8, k9, k10, k11, k12, k13, k14, k15⟩ := xk_choice a1 a2 σ hX
  obtain ⟨⟨w, μ2⟩, hm, hM2, l0, l1, l2, l3, l4, l5, l6, l7, l8, l9, l10, l11, l12, l13⟩ := mk_choice a1 a2 μ hM
  refine ⟨v, σ2, w, μ2, hx, hm, trivial, hX2, hM2, ⟨k0.trans (t0.trans l0.symm), k1.trans (t1.trans l1.symm), k2.trans (t2.trans l2.symm), k3.trans (t3.trans l3.symm), k4.trans (t4.trans l4.symm), k5.trans (t5.trans l5.symm), k6.trans (t6.trans l6.symm), k7.trans (t7.trans l7.symm), k8.trans (t8.trans l8.symm), fun i hi => (congrFun k2 i).trans (tz i (by rw [← k0]; exact hi))⟩, n, k0.trans en, ?_, ?_, ?_⟩
  · show NetE n ((σ2.2.2.1 1)) ((σ2.1 1))
    rw [show (σ2.2.2.1 1) = _ from k2, show (σ2.1 1) = _ from k9]; exact hE
  · show OrdT n ((σ2.1 2)) ((σ2.1 3)) ((μ2.1 1)) ((σ2.2.2.1 3)) ((μ2.2.2.1 3))
    rw [show (σ2.1 2) = _ from k10, show (σ2.1 3) = _ from k11, show (μ2.1 1) = _ from l9, show (σ2.2.2.1 3) = _ from k12, show (μ2.2.2.1 3) = _ from l10]; exact hO
  · show BagT n ((σ2.1 4)) ((μ2.1 2)) ((σ2.2.2.1 4)) ((σ2.2.2.1 5)) ((μ2.2.2.1 4)) ((μ2.2.2.1 5))
    rw [show (σ2.1 4) = _ from k13, show (μ2.1 2) = _ from l11, show (σ2.2.2.1 4) = _ from k14, show (σ2.2.2.1 5) = _ from k15, show (μ2.2.2.1 4) = _ from l12, show (μ2.2.2.1 5) = _ from l13]; exact hB
set_option maxRecDepth 10000 in
theorem w3_29 (j : Nat) : ∀ (a1 : Int64) (a3 : Int32) (σ : XS) (μ : MS), I3 j σ μ → ∃ v σ2 w μ2, sx_drawn a1 a3 σ = some (v, σ2) ∧ sm_drawn a1 a3 μ = some (w, μ2) ∧ True ∧ I3 (j + 1) σ2 μ2 := by
  intro a1 a3 σ μ hI
  obtain ⟨hX, hM, ⟨t0, t1, t2, t3, t4, t5, t6, t7, t8, tz⟩, n, en, hE, hO, hB⟩ := hI
  have em : ((μ.1 0)) = nI n := t0.symm.trans en
  have hn : n ≤ 14 := NetE_n hE
  obtain ⟨⟨v, σ2⟩, hx, hX2, k0, k1, k2, k3, k4, k5, k6, k7, k8, k9, k10, k11, k12, k13, k14, k15⟩ := xk_drawn a1 a3 σ hX
  obtain ⟨⟨w, μ2⟩, hm, hM2, l0, l1, l2, l3, l4, l5, l6, l7, l8, l9, l10, l11, l12, l13⟩ := mk_drawn a1 a3 μ hM
  refine ⟨v, σ2, w, μ2, hx, hm, trivial, hX2, hM2, ⟨k0.trans (t0.trans l0.symm), k1.trans (t1.trans l1.symm), k2.trans (t2.trans l2.symm), k3.trans (t3.trans l3.symm), k4.trans (t4.trans l4.symm), k5.trans (t5.trans l5.symm), k6.trans (t6.trans l6.symm), k7.trans (t7.trans l7.symm), k8.trans (t8.trans l8.symm), fun i hi => (congrFun k2 i).trans (tz i (by rw [← k0]; exact hi))⟩, n, k0.trans en, ?_, ?_, ?_⟩
  · show NetE n ((σ2.2.2.1 1)) ((σ2.1 1))
    rw [show (σ2.2.2.1 1) = _ from k2, show (σ2.1 1) = _ from k9]; exact hE
  · show OrdT n ((σ2.1 2)) ((σ2.1 3)) ((μ2.1 1)) ((σ2.2.2.1 3)) ((μ2.2.2.1 3))
    rw [show (σ2.1 2) = _ from k10, show (σ2.1 3) = _ from k11, show (μ2.1 1) = _ from l9, show (σ2.2.2.1 3) = _ from k12, show (μ2.2.2.1 3) = _ from l10]; exact hO
  · show BagT n ((σ2.1 4)) ((μ2.1 2)) ((σ2.2.2.1 4)) ((σ2.2.2.1 5)) ((μ2.2.2.1 4)) ((μ2.2.2.1 5))
    rw [show (σ2.1 4) = _ from k13, show (μ2.1 2) = _ from l11, show (σ2.2.2.1 4) = _ from k14, show (σ2.2.2.1 5) = _ from k15, show (μ2.2.2.1 4) = _ from l12, show (μ2.2.2.1 5) = _ from l13]; exact hB
set_option maxRecDepth 10000 in
theorem w3_30 (j : Nat) : ∀ (a1 : Int32) (a2 : Int32) (σ : XS) (μ : MS), I3 j σ μ → ∃ v σ2 w μ2, sx_share a1 a2 σ = some (v, σ2) ∧ sm_share a1 a2 μ = some (w, μ2) ∧ True ∧ I3 (j + 1) σ2 μ2 := by
  intro a1 a2 σ μ hI
  obtain ⟨hX, hM, ⟨t0, t1, t2, t3, t4, t5, t6, t7, t8, tz⟩, n, en, hE, hO, hB⟩ := hI
  have em : ((μ.1 0)) = nI n := t0.symm.trans en
  have hn : n ≤ 14 := NetE_n hE
  obtain ⟨⟨v, σ2⟩, hx, hX2, k0, k1, k2, k3, k4, k5, k6, k7, k8, k9, k10, k11, k12, k13, k14, k15⟩ := xk_share a1 a2 σ hX
  obtain ⟨⟨w, μ2⟩, hm, hM2, l0, l1, l2, l3, l4, l5, l6, l7, l8, l9, l10, l11, l12, l13⟩ := mk_share a1 a2 μ hM
  refine ⟨v, σ2, w, μ2, hx, hm, trivial, hX2, hM2, ⟨k0.trans (t0.trans l0.symm), k1.trans (t1.trans l1.symm), k2.trans (t2.trans l2.symm), k3.trans (t3.trans l3.symm), k4.trans (t4.trans l4.symm), k5.trans (t5.trans l5.symm), k6.trans (t6.trans l6.symm), k7.trans (t7.trans l7.symm), k8.trans (t8.trans l8.symm), fun i hi => (congrFun k2 i).trans (tz i (by rw [← k0]; exact hi))⟩, n, k0.trans en, ?_, ?_, ?_⟩
  · show NetE n ((σ2.2.2.1 1)) ((σ2.1 1))
    rw [show (σ2.2.2.1 1) = _ from k2, show (σ2.1 1) = _ from k9]; exact hE
  · show OrdT n ((σ2.1 2)) ((σ2.1 3)) ((μ2.1 1)) ((σ2.2.2.1 3)) ((μ2.2.2.1 3))
    rw [show (σ2.1 2) = _ from k10, show (σ2.1 3) = _ from k11, show (μ2.1 1) = _ from l9, show (σ2.2.2.1 3) = _ from k12, show (μ2.2.2.1 3) = _ from l10]; exact hO
  · show BagT n ((σ2.1 4)) ((μ2.1 2)) ((σ2.2.2.1 4)) ((σ2.2.2.1 5)) ((μ2.2.2.1 4)) ((μ2.2.2.1 5))
    rw [show (σ2.1 4) = _ from k13, show (μ2.1 2) = _ from l11, show (σ2.2.2.1 4) = _ from k14, show (σ2.2.2.1 5) = _ from k15, show (μ2.2.2.1 4) = _ from l12, show (μ2.2.2.1 5) = _ from l13]; exact hB
set_option maxRecDepth 10000 in
theorem ask_ways {j : Nat}  {σ σ2 : XS} {μ μ2 : MS} {v w : Int64} (hI : I3 j σ μ) (h : X4 σ) (hx : sx_ways  σ = some (v, σ2)) (hm : sm_ways  μ = some (w, μ2)) : v = w := by
  obtain ⟨hX, hM, ⟨t0, t1, t2, t3, t4, t5, t6, t7, t8, tz⟩, n, en, hE, hO, hB⟩ := hI
  have em : ((μ.1 0)) = nI n := t0.symm.trans en
  have hn : n ≤ 14 := NetE_n hE
  have hX2 := hX
  unfold SafeX at hX2
  obtain ⟨h_t_net_size, h_t_order_size, h_t_order_knots, h_t_bags_size, h_t_law_size, h_t_going_left, h_t_plan_size, h_t_plan_knots, h_t_plan_others, h_t_plan_otherCount, h_t_plan_feeders, h_t_plan_feederCount, h_t_plan_places, h_t_plan_going_left, h_t_tally_openStates, h_t_tally_openCount, h_t_tally_picks, h_t_tally_strides, h_t_search_rest_left, h_lf⟩ := hX2
  obtain ⟨q, q1, q2, q3⟩ := q_n h_t_law_size
  obtain ⟨B, cc, N, _, _⟩ := id hE
  have F : FoA q ((σ.1 5)) ((σ.2.2.1 9)) := ⟨q1, q2, q3, fun i _ => fo_n (h.2.1 i)⟩
  have Y : Sy n B ((σ.2.2.1 2)) ((σ.2.2.1 7)) ((σ.2.2.1 8)) := ⟨fun k j hk hj _ => h.2.2.1 k j (by omega) (by omega), h.2.2.2.1, h.2.2.2.2.1⟩
  obtain ⟨x, m, hr, hs, e⟩ := ways_rel N hB h.2.2.2.2.2 F h.1 Y ((σ.1 8)) ((σ.2.2.1 11)) ((σ.2.2.1 12)) ((σ.2.2.1 13)) ((σ.2.2.1 14)) ((σ.2.2.1 15)) ((σ.2.2.1 16)) ((σ.2.2.1 17)) ((σ.2.2.1 18)) ((σ.2.2.1 19)) ((σ.1 9)) ((σ.1 10)) ((σ.2.2.1 20)) ((σ.1 11)) ((σ.1 12)) ((σ.1 13)) ((σ.1 14)) ((σ.1 15)) ((σ.2.2.1 21)) ((σ.2.2.1 22)) ((σ.2.2.1 23)) ((σ.2.2.1 24)) ((σ.2.2.1 25)) ((σ.2.2.1 26)) ((σ.2.2.1 27)) ((μ.2.1 0)) ((μ.2.1 1)) ((μ.2.1 2)) ((μ.2.2.1 11)) ((μ.2.2.1 12)) ((μ.2.2.2 0)) ((μ.2.2.2 1)) ((μ.2.2.2 2))
  have hr2 : f_X8_ways ((σ.1 0)) ((σ.2.2.1 0)) ((σ.2.2.1 1)) ((σ.2.2.1 2)) ((σ.1 4)) ((σ.2.2.1 4)) ((σ.2.2.1 5)) ((σ.1 5)) ((σ.2.2.1 6)) ((σ.2.2.1 7)) ((σ.2.2.1 8)) ((σ.2.2.1 9)) ((σ.1 8)) ((σ.2.2.1 11)) ((σ.2.2.1 12)) ((σ.2.2.1 13)) ((σ.2.2.1 14)) ((σ.2.2.1 15)) ((σ.2.2.1 16)) ((σ.2.2.1 17)) ((σ.2.2.1 18)) ((σ.2.2.1 19)) ((σ.1 9)) ((σ.1 10)) ((σ.2.2.1 20)) ((σ.1 11)) ((σ.1 12)) ((σ.1 13)) ((σ.1 14)) ((σ.1 15)) ((σ.2.2.1 21)) ((σ.2.2.1 22)) ((σ.2.2.1 23)) ((σ.2.2.1 24)) ((σ.2.2.1 25)) ((σ.2.2.1 26)) ((σ.2.2.1 27)) = some x := by rw [en]; exact hr
  have hm2 : f_X9_ways ((μ.1 0)) ((μ.1 2)) ((μ.1 3)) ((μ.2.1 0)) ((μ.2.1 1)) ((μ.2.1 2)) ((μ.2.2.1 0)) ((μ.2.2.1 1)) ((μ.2.2.1 2)) ((μ.2.2.1 4)) ((μ.2.2.1 5)) ((μ.2.2.1 7)) ((μ.2.2.1 8)) ((μ.2.2.1 9)) ((μ.2.2.1 10)) ((μ.2.2.1 11)) ((μ.2.2.1 12)) ((μ.2.2.2 0)) ((μ.2.2.2 1)) ((μ.2.2.2 2)) = some m := by rw [em, ← t1, ← t2, ← t3, ← t4, ← t5, ← t6, ← t7, ← t8]; exact hs
  unfold sx_ways at hx
  rw [cal_e hr2] at hx
  cases hx
  unfold sm_ways at hm
  rw [cal_e hm2] at hm
  cases hm
  exact e.symm
set_option maxRecDepth 10000 in
theorem ask_best {j : Nat} {a1 : Int32} {σ σ2 : XS} {μ μ2 : MS} {v w : Int64} (ha : a1 = 0 ∨ a1 = 1) (hI : I3 j σ μ) (h : X4 σ) (hx : sx_best a1 σ = some (v, σ2)) (hm : sm_best a1 μ = some (w, μ2)) : v = w := by
  obtain ⟨hX, hM, ⟨t0, t1, t2, t3, t4, t5, t6, t7, t8, tz⟩, n, en, hE, hO, hB⟩ := hI
  have em : ((μ.1 0)) = nI n := t0.symm.trans en
  have hn : n ≤ 14 := NetE_n hE
  have hX2 := hX
  unfold SafeX at hX2
  obtain ⟨h_t_net_size, h_t_order_size, h_t_order_knots, h_t_bags_size, h_t_law_size, h_t_going_left, h_t_plan_size, h_t_plan_knots, h_t_plan_others, h_t_plan_otherCount, h_t_plan_feeders, h_t_plan_feederCount, h_t_plan_places, h_t_plan_going_left, h_t_tally_openStates, h_t_tally_openCount, h_t_tally_picks, h_t_tally_strides, h_t_search_rest_left, h_lf⟩ := hX2
  obtain ⟨q, q1, q2, q3⟩ := q_n h_t_law_size
  obtain ⟨B, cc, N, _, _⟩ := id hE
  have F : FoA q ((σ.1 5)) ((σ.2.2.1 9)) := ⟨q1, q2, q3, fun i _ => fo_n (h.2.1 i)⟩
  have Y : Sy n B ((σ.2.2.1 2)) ((σ.2.2.1 7)) ((σ.2.2.1 8)) := ⟨fun k j hk hj _ => h.2.2.1 k j (by omega) (by omega), h.2.2.2.1, h.2.2.2.2.1⟩
  obtain ⟨x, m, hr, hs, e⟩ := best_rel N hB h.2.2.2.2.2 F h.1 Y ha ((σ.1 8)) ((σ.2.2.1 11)) ((σ.2.2.1 12)) ((σ.2.2.1 13)) ((σ.2.2.1 14)) ((σ.2.2.1 15)) ((σ.2.2.1 16)) ((σ.2.2.1 17)) ((σ.2.2.1 18)) ((σ.2.2.1 19)) ((σ.1 9)) ((σ.1 10)) ((σ.2.2.1 20)) ((σ.1 11)) ((σ.1 12)) ((σ.1 13)) ((σ.1 14)) ((σ.1 15)) ((σ.2.2.1 21)) ((σ.2.2.1 22)) ((σ.2.2.1 23)) ((σ.2.2.1 24)) ((σ.2.2.1 25)) ((σ.2.2.1 26)) ((σ.2.2.1 27)) ((μ.2.1 0)) ((μ.2.1 1)) ((μ.2.1 2)) ((μ.2.2.1 11)) ((μ.2.2.1 12)) ((μ.2.2.2 0)) ((μ.2.2.2 1)) ((μ.2.2.2 2))
  have hr2 : f_X8_best a1 ((σ.1 0)) ((σ.2.2.1 0)) ((σ.2.2.1 1)) ((σ.2.2.1 2)) ((σ.1 4)) ((σ.2.2.1 4)) ((σ.2.2.1 5)) ((σ.1 5)) ((σ.2.2.1 6)) ((σ.2.2.1 7)) ((σ.2.2.1 8)) ((σ.2.2.1 9)) ((σ.1 8)) ((σ.2.2.1 11)) ((σ.2.2.1 12)) ((σ.2.2.1 13)) ((σ.2.2.1 14)) ((σ.2.2.1 15)) ((σ.2.2.1 16)) ((σ.2.2.1 17)) ((σ.2.2.1 18)) ((σ.2.2.1 19)) ((σ.1 9)) ((σ.1 10)) ((σ.2.2.1 20)) ((σ.1 11)) ((σ.1 12)) ((σ.1 13)) ((σ.1 14)) ((σ.1 15)) ((σ.2.2.1 21)) ((σ.2.2.1 22)) ((σ.2.2.1 23)) ((σ.2.2.1 24)) ((σ.2.2.1 25)) ((σ.2.2.1 26)) ((σ.2.2.1 27)) = some x := by rw [en]; exact hr
  have hm2 : f_X9_best a1 ((μ.1 0)) ((μ.1 2)) ((μ.1 3)) ((μ.2.1 0)) ((μ.2.1 1)) ((μ.2.1 2)) ((μ.2.2.1 0)) ((μ.2.2.1 1)) ((μ.2.2.1 2)) ((μ.2.2.1 4)) ((μ.2.2.1 5)) ((μ.2.2.1 7)) ((μ.2.2.1 8)) ((μ.2.2.1 9)) ((μ.2.2.1 10)) ((μ.2.2.1 11)) ((μ.2.2.1 12)) ((μ.2.2.2 0)) ((μ.2.2.2 1)) ((μ.2.2.2 2)) = some m := by rw [em, ← t1, ← t2, ← t3, ← t4, ← t5, ← t6, ← t7, ← t8]; exact hs
  unfold sx_best at hx
  rw [cal_e hr2] at hx
  cases hx
  unfold sm_best at hm
  rw [cal_e hm2] at hm
  cases hm
  exact e.symm
set_option maxRecDepth 10000 in
theorem ask_bests {j : Nat} {a1 : Int32} {σ σ2 : XS} {μ μ2 : MS} {v w : Int64} (ha : a1 = 0 ∨ a1 = 1) (hI : I3 j σ μ) (h : X4 σ) (hx : sx_bests a1 σ = some (v, σ2)) (hm : sm_bests a1 μ = some (w, μ2)) : v = w := by
  obtain ⟨hX, hM, ⟨t0, t1, t2, t3, t4, t5, t6, t7, t8, tz⟩, n, en, hE, hO, hB⟩ := hI
  have em : ((μ.1 0)) = nI n := t0.symm.trans en
  have hn : n ≤ 14 := NetE_n hE
  have hX2 := hX
  unfold SafeX at hX2
  obtain ⟨h_t_net_size, h_t_order_size, h_t_order_knots, h_t_bags_size, h_t_law_size, h_t_going_left, h_t_plan_size, h_t_plan_knots, h_t_plan_others, h_t_plan_otherCount, h_t_plan_feeders, h_t_plan_feederCount, h_t_plan_places, h_t_plan_going_left, h_t_tally_openStates, h_t_tally_openCount, h_t_tally_picks, h_t_tally_strides, h_t_search_rest_left, h_lf⟩ := hX2
  obtain ⟨q, q1, q2, q3⟩ := q_n h_t_law_size
  obtain ⟨B, cc, N, _, _⟩ := id hE
  have F : FoA q ((σ.1 5)) ((σ.2.2.1 9)) := ⟨q1, q2, q3, fun i _ => fo_n (h.2.1 i)⟩
  have Y : Sy n B ((σ.2.2.1 2)) ((σ.2.2.1 7)) ((σ.2.2.1 8)) := ⟨fun k j hk hj _ => h.2.2.1 k j (by omega) (by omega), h.2.2.2.1, h.2.2.2.2.1⟩
  obtain ⟨x, m, hr, hs, e⟩ := bests_rel N hB h.2.2.2.2.2 F h.1 Y ha ((σ.1 8)) ((σ.2.2.1 11)) ((σ.2.2.1 12)) ((σ.2.2.1 13)) ((σ.2.2.1 14)) ((σ.2.2.1 15)) ((σ.2.2.1 16)) ((σ.2.2.1 17)) ((σ.2.2.1 18)) ((σ.2.2.1 19)) ((σ.1 9)) ((σ.1 10)) ((σ.2.2.1 20)) ((σ.1 11)) ((σ.1 12)) ((σ.1 13)) ((σ.1 14)) ((σ.1 15)) ((σ.2.2.1 21)) ((σ.2.2.1 22)) ((σ.2.2.1 23)) ((σ.2.2.1 24)) ((σ.2.2.1 25)) ((σ.2.2.1 26)) ((σ.2.2.1 27)) ((μ.2.1 0)) ((μ.2.1 1)) ((μ.2.1 2)) ((μ.2.2.1 11)) ((μ.2.2.1 12)) ((μ.2.2.2 0)) ((μ.2.2.2 1)) ((μ.2.2.2 2))
  have hr2 : f_X8_bests a1 ((σ.1 0)) ((σ.2.2.1 0)) ((σ.2.2.1 1)) ((σ.2.2.1 2)) ((σ.1 4)) ((σ.2.2.1 4)) ((σ.2.2.1 5)) ((σ.1 5)) ((σ.2.2.1 6)) ((σ.2.2.1 7)) ((σ.2.2.1 8)) ((σ.2.2.1 9)) ((σ.1 8)) ((σ.2.2.1 11)) ((σ.2.2.1 12)) ((σ.2.2.1 13)) ((σ.2.2.1 14)) ((σ.2.2.1 15)) ((σ.2.2.1 16)) ((σ.2.2.1 17)) ((σ.2.2.1 18)) ((σ.2.2.1 19)) ((σ.1 9)) ((σ.1 10)) ((σ.2.2.1 20)) ((σ.1 11)) ((σ.1 12)) ((σ.1 13)) ((σ.1 14)) ((σ.1 15)) ((σ.2.2.1 21)) ((σ.2.2.1 22)) ((σ.2.2.1 23)) ((σ.2.2.1 24)) ((σ.2.2.1 25)) ((σ.2.2.1 26)) ((σ.2.2.1 27)) = some x := by rw [en]; exact hr
  have hm2 : f_X9_bests a1 ((μ.1 0)) ((μ.1 2)) ((μ.1 3)) ((μ.2.1 0)) ((μ.2.1 1)) ((μ.2.1 2)) ((μ.2.2.1 0)) ((μ.2.2.1 1)) ((μ.2.2.1 2)) ((μ.2.2.1 4)) ((μ.2.2.1 5)) ((μ.2.2.1 7)) ((μ.2.2.1 8)) ((μ.2.2.1 9)) ((μ.2.2.1 10)) ((μ.2.2.1 11)) ((μ.2.2.1 12)) ((μ.2.2.2 0)) ((μ.2.2.2 1)) ((μ.2.2.2 2)) = some m := by rw [em, ← t1, ← t2, ← t3, ← t4, ← t5, ← t6, ← t7, ← t8]; exact hs
  unfold sx_bests at hx
  rw [cal_e hr2] at hx
  cases hx
  unfold sm_bests at hm
  rw [cal_e hm2] at hm
  cases hm
  exact e.symm
set_option maxRecDepth 10000 in
theorem ask_share {j : Nat} {a1 : Int32} {a2 : Int32} {σ σ2 : XS} {μ μ2 : MS} {v w : Int64} (hI : I3 j σ μ) (h : X4 σ) (hx : sx_share a1 a2 σ = some (v, σ2)) (hm : sm_share a1 a2 μ = some (w, μ2)) : v = w := by
  obtain ⟨hX, hM, ⟨t0, t1, t2, t3, t4, t5, t6, t7, t8, tz⟩, n, en, hE, hO, hB⟩ := hI
  have em : ((μ.1 0)) = nI n := t0.symm.trans en
  have hn : n ≤ 14 := NetE_n hE
  have hX2 := hX
  unfold SafeX at hX2
  obtain ⟨h_t_net_size, h_t_order_size, h_t_order_knots, h_t_bags_size, h_t_law_size, h_t_going_left, h_t_plan_size, h_t_plan_knots, h_t_plan_others, h_t_plan_otherCount, h_t_plan_feeders, h_t_plan_feederCount, h_t_plan_places, h_t_plan_going_left, h_t_tally_openStates, h_t_tally_openCount, h_t_tally_picks, h_t_tally_strides, h_t_search_rest_left, h_lf⟩ := hX2
  obtain ⟨q, q1, q2, q3⟩ := q_n h_t_law_size
  obtain ⟨B, cc, N, _, _⟩ := id hE
  have F : FoA q ((σ.1 5)) ((σ.2.2.1 9)) := ⟨q1, q2, q3, fun i _ => fo_n (h.2.1 i)⟩
  have Y : Sy n B ((σ.2.2.1 2)) ((σ.2.2.1 7)) ((σ.2.2.1 8)) := ⟨fun k j hk hj _ => h.2.2.1 k j (by omega) (by omega), h.2.2.2.1, h.2.2.2.2.1⟩
  obtain ⟨x, m, hr, hs, e⟩ := share_rel N hB h.2.2.2.2.2 F h.1 Y a1 a2 ((σ.1 8)) ((σ.2.2.1 11)) ((σ.2.2.1 12)) ((σ.2.2.1 13)) ((σ.2.2.1 14)) ((σ.2.2.1 15)) ((σ.2.2.1 16)) ((σ.2.2.1 17)) ((σ.2.2.1 18)) ((σ.2.2.1 19)) ((σ.1 9)) ((σ.1 10)) ((σ.2.2.1 20)) ((σ.1 11)) ((σ.1 12)) ((σ.1 13)) ((σ.1 14)) ((σ.1 15)) ((σ.2.2.1 21)) ((σ.2.2.1 22)) ((σ.2.2.1 23)) ((σ.2.2.1 24)) ((σ.2.2.1 25)) ((σ.2.2.1 26)) ((σ.2.2.1 27)) ((μ.2.1 0)) ((μ.2.1 1)) ((μ.2.1 2)) ((μ.2.2.1 11)) ((μ.2.2.1 12)) ((μ.2.2.2 0)) ((μ.2.2.2 1)) ((μ.2.2.2 2))
  have hr2 : f_X8_share a1 a2 ((σ.1 0)) ((σ.2.2.1 0)) ((σ.2.2.1 1)) ((σ.2.2.1 2)) ((σ.1 4)) ((σ.2.2.1 4)) ((σ.2.2.1 5)) ((σ.1 5)) ((σ.2.2.1 6)) ((σ.2.2.1 7)) ((σ.2.2.1 8)) ((σ.2.2.1 9)) ((σ.1 8)) ((σ.2.2.1 11)) ((σ.2.2.1 12)) ((σ.2.2.1 13)) ((σ.2.2.1 14)) ((σ.2.2.1 15)) ((σ.2.2.1 16)) ((σ.2.2.1 17)) ((σ.2.2.1 18)) ((σ.2.2.1 19)) ((σ.1 9)) ((σ.1 10)) ((σ.2.2.1 20)) ((σ.1 11)) ((σ.1 12)) ((σ.1 13)) ((σ.1 14)) ((σ.1 15)) ((σ.2.2.1 21)) ((σ.2.2.1 22)) ((σ.2.2.1 23)) ((σ.2.2.1 24)) ((σ.2.2.1 25)) ((σ.2.2.1 26)) ((σ.2.2.1 27)) = some x := by rw [en]; exact hr
  have hm2 : f_X9_share a1 a2 ((μ.1 0)) ((μ.1 2)) ((μ.1 3)) ((μ.2.1 0)) ((μ.2.1 1)) ((μ.2.1 2)) ((μ.2.2.1 0)) ((μ.2.2.1 1)) ((μ.2.2.1 2)) ((μ.2.2.1 4)) ((μ.2.2.1 5)) ((μ.2.2.1 7)) ((μ.2.2.1 8)) ((μ.2.2.1 9)) ((μ.2.2.1 10)) ((μ.2.2.1 11)) ((μ.2.2.1 12)) ((μ.2.2.2 0)) ((μ.2.2.2 1)) ((μ.2.2.2 2)) = some m := by rw [em, ← t1, ← t2, ← t3, ← t4, ← t5, ← t6, ← t7, ← t8]; exact hs
  unfold sx_share at hx
  rw [cal_e hr2] at hx
  cases hx
  unfold sm_share at hm
  rw [cal_e hm2] at hm
  cases hm
  exact e.symm
theorem ok4_0 (j : Nat) : Ok_0 I4 j := by
  intro a1 σ μ hI
  obtain ⟨v, σ2, w, μ2, hx, hm, hc, hI2⟩ := ok3_0 j a1 σ μ hI.1
  exact ⟨v, σ2, w, μ2, hx, hm, hc, hI2, x4_knot hI.1 hI.2 hx⟩
theorem ok4_1 (j : Nat) : Ok_1 I4 j := by
  intro a1 a2 a3 σ μ hI
  obtain ⟨v, σ2, w, μ2, hx, hm, hc, hI2⟩ := ok3_1 j a1 a2 a3 σ μ hI.1
  exact ⟨v, σ2, w, μ2, hx, hm, hc, hI2, x4_edge hI.1 hI.2 hx⟩
theorem ok4_2 (j : Nat) : Ok_2 I4 j := by
  intro a1 a2 σ μ hI
  obtain ⟨v, σ2, w, μ2, hx, hm, hc, hI2⟩ := ok3_2 j a1 a2 σ μ hI.1
  exact ⟨v, σ2, w, μ2, hx, hm, hc, hI2, x4_cut hI.1 hI.2 hx⟩
theorem ok4_3 (j : Nat) : Ok_3 I4 j := by
  intro a1 a2 σ μ hI
  obtain ⟨v, σ2, w, μ2, hx, hm, hc, hI2⟩ := ok3_3 j a1 a2 σ μ hI.1
  exact ⟨v, σ2, w, μ2, hx, hm, hc, hI2, x4_weigh hI.1 hI.2 hx⟩
theorem ok4_4 (j : Nat) : Ok_4 I4 j := by
  intro a1 a2 σ μ hI
  obtain ⟨v, σ2, w, μ2, hx, hm, hc, hI2⟩ := ok3_4 j a1 a2 σ μ hI.1
  exact ⟨v, σ2, w, μ2, hx, hm, hc, hI2, x4_weight hI.1 hI.2 hx⟩
theorem ok4_5 (j : Nat) : Ok_5 I4 j := by
  intro a1 σ μ hI
  obtain ⟨v, σ2, w, μ2, hx, hm, hc, hI2⟩ := ok3_5 j a1 σ μ hI.1
  exact ⟨v, σ2, w, μ2, hx, hm, hc, hI2, x4_beside hI.1 hI.2 hx⟩
theorem ok4_6 (j : Nat) : Ok_6 I4 j := by
  intro a1 σ μ hI
  obtain ⟨v, σ2, w, μ2, hx, hm, hc, hI2⟩ := ok3_6 j a1 σ μ hI.1
  exact ⟨v, σ2, w, μ2, hx, hm, hc, hI2, x4_put hI.1 hI.2 hx⟩
theorem ok4_7 (j : Nat) : Ok_7 I4 j := by
  intro  σ μ hI
  obtain ⟨v, σ2, w, μ2, hx, hm, hc, hI2⟩ := ok3_7 j  σ μ hI.1
  exact ⟨v, σ2, w, μ2, hx, hm, hc, hI2, x4_wipe hI.1 hI.2 hx⟩
theorem ok4_8 (j : Nat) : Ok_8 I4 j := by
  intro  σ μ hI
  obtain ⟨v, σ2, w, μ2, hx, hm, hc, hI2⟩ := ok3_8 j  σ μ hI.1
  exact ⟨v, σ2, w, μ2, hx, hm, hc, hI2, x4_make hI.1 hI.2 hx⟩
theorem ok4_9 (j : Nat) : Ok_9 I4 j := by
  intro  σ μ hI
  obtain ⟨v, σ2, w, μ2, hx, hm, hc, hI2⟩ := ok3_9 j  σ μ hI.1
  exact ⟨v, σ2, w, μ2, hx, hm, hc, hI2, x4_fills hI.1 hI.2 hx⟩
theorem ok4_10 (j : Nat) : Ok_10 I4 j := by
  intro  σ μ hI
  obtain ⟨v, σ2, w, μ2, hx, hm, hc, hI2⟩ := ok3_10 j  σ μ hI.1
  exact ⟨v, σ2, w, μ2, hx, hm, hc, hI2, x4_fewest hI.1 hI.2 hx⟩
theorem ok4_11 (j : Nat) : Ok_11 I4 j := by
  intro  σ μ hI
  obtain ⟨v, σ2, w, μ2, hx, hm, hc, hI2⟩ := ok3_11 j  σ μ hI.1
  exact ⟨v, σ2, w, μ2, hx, hm, hc, hI2, x4_least hI.1 hI.2 hx⟩
theorem ok4_12 (j : Nat) : Ok_12 I4 j := by
  intro a1 σ μ hI
  obtain ⟨v, σ2, w, μ2, hx, hm, hc, hI2⟩ := ok3_12 j a1 σ μ hI.1
  exact ⟨v, σ2, w, μ2, hx, hm, hc, hI2, x4_row hI.1 hI.2 hx⟩
theorem ok4_13 (j : Nat) : Ok_13 I4 j := by
  intro  σ μ hI
  obtain ⟨v, σ2, w, μ2, hx, hm, hc, hI2⟩ := ok3_13 j  σ μ hI.1
  exact ⟨v, σ2, w, μ2, hx, hm, hc, hI2, x4_below hI.1 hI.2 hx⟩
theorem ok4_14 (j : Nat) : Ok_14 I4 j := by
  intro  σ μ hI
  obtain ⟨v, σ2, w, μ2, hx, hm, hc, hI2⟩ := ok3_14 j  σ μ hI.1
  exact ⟨v, σ2, w, μ2, hx, hm, hc, hI2, x4_clear hI.1 hI.2 hx⟩
theorem ok4_15 (j : Nat) : Ok_15 I4 j := by
  intro a1 σ μ hI
  obtain ⟨v, σ2, w, μ2, hx, hm, hc, hI2⟩ := ok3_15 j a1 σ μ hI.1
  exact ⟨v, σ2, w, μ2, hx, hm, hc, hI2, x4_bag hI.1 hI.2 hx⟩
theorem ok4_16 (j : Nat) : Ok_16 I4 j := by
  intro a1 a2 σ μ hI
  obtain ⟨v, σ2, w, μ2, hx, hm, hc, hI2⟩ := ok3_16 j a1 a2 σ μ hI.1
  exact ⟨v, σ2, w, μ2, hx, hm, hc, hI2, x4_hang hI.1 hI.2 hx⟩
theorem ok4_17 (j : Nat) : Ok_17 I4 j := by
  intro a1 a2 σ μ hI
  obtain ⟨v, σ2, w, μ2, hx, hm, hc, hI2⟩ := ok3_17 j a1 a2 σ μ hI.1
  exact ⟨v, σ2, w, μ2, hx, hm, hc, hI2, x4_bagged hI.1 hI.2 hx⟩
theorem ok4_18 (j : Nat) : Ok_18 I4 j := by
  intro  σ μ hI
  obtain ⟨v, σ2, w, μ2, hx, hm, hc, hI2⟩ := ok3_18 j  σ μ hI.1
  exact ⟨v, σ2, w, μ2, hx, hm, hc, hI2, x4_sound hI.1 hI.2 hx⟩
theorem ok4_19 (j : Nat) : Ok_19 I4 j := by
  intro  σ μ hI
  obtain ⟨v, σ2, w, μ2, hx, hm, hc, hI2⟩ := ok3_19 j  σ μ hI.1
  exact ⟨v, σ2, w, μ2, hx, hm, hc, hI2, x4_width hI.1 hI.2 hx⟩
theorem ok4_20 (j : Nat) : Ok_20 I4 j := by
  intro  σ μ hI
  obtain ⟨v, σ2, w, μ2, hx, hm, hc, hI2⟩ := ok3_20 j  σ μ hI.1
  exact ⟨v, σ2, w, μ2, hx, hm, hc, hI2, x4_separator hI.1 hI.2 hx⟩
theorem ok4_21 (j : Nat) : Ok_21 I4 j := by
  intro a1 σ μ hI
  obtain ⟨v, σ2, w, μ2, hx, hm, hc, hI2⟩ := ok3_21 j a1 σ μ hI.1
  exact ⟨v, σ2, w, μ2, hx, hm, hc, hI2, x4_states hI.1 hI.2 hx⟩
theorem ok4_22 (j : Nat) : Ok_22 I4 j := by
  intro a1 a2 σ μ hI
  obtain ⟨v, σ2, w, μ2, hx, hm, hc, hI2⟩ := ok3_22 j a1 a2 σ μ hI.1
  exact ⟨v, σ2, w, μ2, hx, hm, hc, hI2, x4_factor hI.1 hI.2 hx⟩
theorem ok4_23 (j : Nat) : Ok_23 I4 j := by
  intro a1 a2 a3 a4 σ μ hI
  obtain ⟨v, σ2, w, μ2, hx, hm, hc, hI2⟩ := ok3_23 j a1 a2 a3 a4 σ μ hI.1
  exact ⟨v, σ2, w, μ2, hx, hm, hc, hI2, x4_pair hI.1 hI.2 hx⟩
theorem ok4_24 (j : Nat) : Ok_24 I4 j := by
  intro a1 a2 σ μ hI
  obtain ⟨v, σ2, w, μ2, hx, hm, hc, hI2⟩ := ok3_24 j a1 a2 σ μ hI.1
  exact ⟨v, σ2, w, μ2, hx, hm, hc, hI2, x4_forbid hI.1 hI.2 hx⟩
theorem ok4_25 (j : Nat) : Ok_25 I4 j := by
  intro  σ μ hI
  obtain ⟨v, σ2, w, μ2, hx, hm, _, hI2⟩ := w3_25 j  σ μ hI.1
  exact ⟨v, σ2, w, μ2, hx, hm, (by first | exact True.intro | exact ask_ways hI.1 hI.2 hx hm), hI2, x4_ways hI.1 hI.2 hx⟩
theorem ok4_26 (j : Nat) : Ok_26 I4 j := by
  intro a1 σ μ hb hI
  obtain ⟨v, σ2, w, μ2, hx, hm, _, hI2⟩ := w3_26 j a1 σ μ hb hI.1
  exact ⟨v, σ2, w, μ2, hx, hm, (by first | exact True.intro | exact ask_best hb hI.1 hI.2 hx hm), hI2, x4_best hI.1 hI.2 hx⟩
theorem ok4_27 (j : Nat) : Ok_27 I4 j := by
  intro a1 σ μ hb hI
  obtain ⟨v, σ2, w, μ2, hx, hm, _, hI2⟩ := w3_27 j a1 σ μ hb hI.1
  exact ⟨v, σ2, w, μ2, hx, hm, (by first | exact True.intro | exact ask_bests hb hI.1 hI.2 hx hm), hI2, x4_bests hI.1 hI.2 hx⟩
theorem ok4_28 (j : Nat) : Ok_28 I4 j := by
  intro a1 a2 σ μ hb hI
  obtain ⟨v, σ2, w, μ2, hx, hm, _, hI2⟩ := w3_28 j a1 a2 σ μ hb hI.1
  exact ⟨v, σ2, w, μ2, hx, hm, (by exact True.intro), hI2, x4_choice hI.1 hI.2 hx⟩
theorem ok4_29 (j : Nat) : Ok_29 I4 j := by
  intro a1 a3 σ μ hI
  obtain ⟨v, σ2, w, μ2, hx, hm, _, hI2⟩ := w3_29 j a1 a3 σ μ hI.1
  exact ⟨v, σ2, w, μ2, hx, hm, (by exact True.intro), hI2, x4_drawn hI.1 hI.2 hx⟩
theorem ok4_30 (j : Nat) : Ok_30 I4 j := by
  intro a1 a2 σ μ hI
  obtain ⟨v, σ2, w, μ2, hx, hm, _, hI2⟩ := w3_30 j a1 a2 σ μ hI.1
  exact ⟨v, σ2, w, μ2, hx, hm, (by first | exact True.intro | exact ask_share hI.1 hI.2 hx hm), hI2, x4_share hI.1 hI.2 hx⟩
theorem ok4_31 (j : Nat) : Ok_31 I4 j := by
  intro a1 σ μ hI
  obtain ⟨v, σ2, w, μ2, hx, hm, hc, hI2⟩ := ok3_31 j a1 σ μ hI.1
  exact ⟨v, σ2, w, μ2, hx, hm, hc, hI2, x4_count hI.1 hI.2 hx⟩
theorem all4 (j : Nat) : OkAll I4 j := ⟨ok4_0 j, ok4_1 j, ok4_2 j, ok4_3 j, ok4_4 j, ok4_5 j, ok4_6 j, ok4_7 j, ok4_8 j, ok4_9 j, ok4_10 j, ok4_11 j, ok4_12 j, ok4_13 j, ok4_14 j, ok4_15 j, ok4_16 j, ok4_17 j, ok4_18 j, ok4_19 j, ok4_20 j, ok4_21 j, ok4_22 j, ok4_23 j, ok4_24 j, ok4_25 j, ok4_26 j, ok4_27 j, ok4_28 j, ok4_29 j, ok4_30 j, ok4_31 j⟩
