theorem s_X8_knot (a1 : Int32) (t_net_size : Int32) (t_net_loads : Nat → Int32) (t_order_size : Int32) (t_order_held : Int32) (t_bags_size : Int32) (h_t_net_size : 0 ≤ t_net_size.toInt ∧ t_net_size.toInt ≤ 14) (h_t_order_size : 0 ≤ t_order_size.toInt ∧ t_order_size.toInt ≤ 14) (h_t_bags_size : 0 ≤ t_bags_size.toInt ∧ t_bags_size.toInt ≤ 14) : Sat (f_X8_knot a1 t_net_size t_net_loads t_order_size t_order_held t_bags_size) (fun r => (0 ≤ (r.2.1).toInt ∧ (r.2.1).toInt ≤ 14) ∧ (0 ≤ (r.2.2.2.1).toInt ∧ (r.2.2.2.1).toInt ≤ 14) ∧ (0 ≤ (r.2.2.2.2.2).toInt ∧ (r.2.2.2.2.2).toInt ≤ 14) ∧ (t_net_size.toInt ≤ r.2.1.toInt) ∧ True) := by
  unfold f_X8_knot
  have l0 : (0 : Int32).toInt = 0 := rfl
  have l14 : (14 : Int32).toInt = 14 := rfl
  refine sat_cal (s_X8_isWeight a1) fun u1 hu1 => ?_
  obtain ⟨hu1_0, -⟩ := hu1
  refine sat_ite (fun hc1 => ?_) (fun hc1 => ?_)
  · have thc1 := congrArg Int32.toInt hc1
    exact sat_some ⟨(by (try dsimp only); omega), (by (try dsimp only); omega), (by (try dsimp only); omega), (by (try dsimp only); omega), trivial⟩
  · have thc1 := neq hc1
    refine sat_ite (fun hc2 => ?_) (fun hc2 => ?_)
    · have thc2 := plt hc2
      refine sat_cal (s_X2_empty t_order_size t_order_held (by omega)) fun u2 hu2 => ?_
      obtain ⟨hu2_0, -⟩ := hu2
      refine sat_cal (s_X0_empty t_bags_size (by omega)) fun u3 hu3 => ?_
      obtain ⟨hu3_0, -⟩ := hu3
      refine sat_cal (s_X4_addKnot a1 t_net_size t_net_loads (by omega)) fun u4 hu4 => ?_
      obtain ⟨hu4_1, hu4_px, -⟩ := hu4
      exact sat_some ⟨(by (try dsimp only); omega), (by (try dsimp only); omega), (by (try dsimp only); omega), (by (try dsimp only); omega), trivial⟩
    · have thc2 := nlt hc2
      exact sat_some ⟨(by (try dsimp only); omega), (by (try dsimp only); omega), (by (try dsimp only); omega), (by (try dsimp only); omega), trivial⟩
theorem s_X8_edge (a1 : Int32) (a2 : Int32) (a3 : Int32) (t_net_size : Int32) (t_net_edges : Int32) (t_net_near : Nat → Int32) (t_net_ties : Nat → Int32) (h_t_net_size : 0 ≤ t_net_size.toInt ∧ t_net_size.toInt ≤ 14) : Sat (f_X8_edge a1 a2 a3 t_net_size t_net_edges t_net_near t_net_ties) (fun r => True) := by
  unfold f_X8_edge
  have l0 : (0 : Int32).toInt = 0 := rfl
  refine sat_cal (s_X4_has a1 t_net_size (by omega)) fun u1 hu1 => ?_
  obtain ⟨hu1_0, -⟩ := hu1
  refine sat_ite (fun hc1 => ?_) (fun hc1 => ?_)
  · have thc1 := congrArg Int32.toInt hc1
    exact sat_some trivial
  · have thc1 := neq hc1
    refine sat_cal (s_X4_has a2 t_net_size (by omega)) fun u2 hu2 => ?_
    obtain ⟨hu2_0, -⟩ := hu2
    refine sat_ite (fun hc2 => ?_) (fun hc2 => ?_)
    · have thc2 := congrArg Int32.toInt hc2
      exact sat_some trivial
    · have thc2 := neq hc2
      refine sat_ite (fun hc3 => ?_) (fun hc3 => ?_)
      · have thc3 := congrArg Int32.toInt hc3
        exact sat_some trivial
      · have thc3 := neq hc3
        refine sat_cal (s_X8_isWeight a3) fun u3 hu3 => ?_
        obtain ⟨hu3_0, -⟩ := hu3
        refine sat_ite (fun hc4 => ?_) (fun hc4 => ?_)
        · have thc4 := congrArg Int32.toInt hc4
          exact sat_some trivial
        · have thc4 := neq hc4
          refine sat_cal (s_X4_join a1 a2 a3 t_net_edges t_net_near t_net_ties (by omega) (by omega)) fun u4 hu4 => ?_
          obtain ⟨hu4_0, -⟩ := hu4
          refine sat_ite (fun hc5 => ?_) (fun hc5 => ?_)
          · have thc5 := congrArg Int32.toInt hc5
            exact sat_some trivial
          · have thc5 := neq hc5
            exact sat_some trivial
theorem s_X8_cut (a1 : Int32) (a2 : Int32) (t_net_size : Int32) (t_net_edges : Int32) (t_net_near : Nat → Int32) (t_net_ties : Nat → Int32) (h_t_net_size : 0 ≤ t_net_size.toInt ∧ t_net_size.toInt ≤ 14) : Sat (f_X8_cut a1 a2 t_net_size t_net_edges t_net_near t_net_ties) (fun r => True) := by
  unfold f_X8_cut
  have l0 : (0 : Int32).toInt = 0 := rfl
  refine sat_cal (s_X4_joined a1 a2 t_net_size t_net_near (by omega)) fun u1 hu1 => ?_
  obtain ⟨hu1_0, -⟩ := hu1
  refine sat_ite (fun hc1 => ?_) (fun hc1 => ?_)
  · have thc1 := congrArg Int32.toInt hc1
    exact sat_some trivial
  · have thc1 := neq hc1
    refine sat_cal (s_X4_part a1 a2 t_net_edges t_net_near t_net_ties (by omega) (by omega)) fun u2 hu2 => ?_
    exact sat_some trivial
theorem s_X8_weigh (a1 : Int32) (a2 : Int32) (t_net_size : Int32) (t_net_loads : Nat → Int32) (h_t_net_size : 0 ≤ t_net_size.toInt ∧ t_net_size.toInt ≤ 14) : Sat (f_X8_weigh a1 a2 t_net_size t_net_loads) (fun r => True) := by
  unfold f_X8_weigh
  have l0 : (0 : Int32).toInt = 0 := rfl
  refine sat_cal (s_X4_has a1 t_net_size (by omega)) fun u1 hu1 => ?_
  obtain ⟨hu1_0, -⟩ := hu1
  refine sat_ite (fun hc1 => ?_) (fun hc1 => ?_)
  · have thc1 := congrArg Int32.toInt hc1
    exact sat_some trivial
  · have thc1 := neq hc1
    refine sat_cal (s_X8_isWeight a2) fun u2 hu2 => ?_
    obtain ⟨hu2_0, -⟩ := hu2
    refine sat_ite (fun hc2 => ?_) (fun hc2 => ?_)
    · have thc2 := congrArg Int32.toInt hc2
      exact sat_some trivial
    · have thc2 := neq hc2
      refine sat_ldA (okI_of (by omega)) fun v3 e3 => ?_
      refine sat_bnd fun x3_4 e4 => ?_
      have te4 := congrArg Int32.toInt e4
      refine sat_stI (okI_of (by omega)) fun t_net_loads_5 e5 => ?_
      exact sat_some trivial
theorem s_X8_weight (a1 : Int32) (a2 : Int32) (t_net_size : Int32) (t_net_loads : Nat → Int32) (t_net_near : Nat → Int32) (t_net_ties : Nat → Int32) (h_t_net_size : 0 ≤ t_net_size.toInt ∧ t_net_size.toInt ≤ 14) : Sat (f_X8_weight a1 a2 t_net_size t_net_loads t_net_near t_net_ties) (fun r => True) := by
  unfold f_X8_weight
  have l0 : (0 : Int32).toInt = 0 := rfl
  have l14 : (14 : Int32).toInt = 14 := rfl
  refine sat_ite (fun hc1 => ?_) (fun hc1 => ?_)
  · have thc1 := congrArg Int32.toInt hc1
    refine sat_cal (s_X4_has a1 t_net_size (by omega)) fun u3 hu3 => ?_
    obtain ⟨hu3_0, -⟩ := hu3
    refine sat_ite (fun hc2 => ?_) (fun hc2 => ?_)
    · have thc2 := congrArg Int32.toInt hc2
      exact sat_some trivial
    · have thc2 := neq hc2
      refine sat_ldA (okI_of (by omega)) fun v4 e3 => ?_
      exact sat_some trivial
  · have thc1 := neq hc1
    refine sat_cal (s_X4_joined a1 a2 t_net_size t_net_near (by omega)) fun u1 hu1 => ?_
    obtain ⟨hu1_0, -⟩ := hu1
    refine sat_ite (fun hc4 => ?_) (fun hc4 => ?_)
    · have thc4 := congrArg Int32.toInt hc4
      exact sat_some trivial
    · have thc4 := neq hc4
      try (have k6 : (a1 * (14 : Int32)).toInt = a1.toInt * 14 := ti_mulc rfl (by omega))
      try (have k7 : ((a1 * (14 : Int32)) + a2).toInt = (a1 * (14 : Int32)).toInt + a2.toInt := ti_add (by omega) (by omega))
      refine sat_ldA (okI_of (by omega)) fun v2 e5 => ?_
      exact sat_some trivial
theorem s_X8_beside (a1 : Int32) (t_net_size : Int32) (t_net_near : Nat → Int32) (h_t_net_size : 0 ≤ t_net_size.toInt ∧ t_net_size.toInt ≤ 14) : Sat (f_X8_beside a1 t_net_size t_net_near) (fun r => True) := by
  unfold f_X8_beside
  have l0 : (0 : Int32).toInt = 0 := rfl
  refine sat_cal (s_X4_has a1 t_net_size (by omega)) fun u1 hu1 => ?_
  obtain ⟨hu1_0, -⟩ := hu1
  refine sat_ite (fun hc1 => ?_) (fun hc1 => ?_)
  · have thc1 := congrArg Int32.toInt hc1
    exact sat_some trivial
  · have thc1 := neq hc1
    refine sat_ldA (okI_of (by omega)) fun v2 e2 => ?_
    exact sat_some trivial
theorem s_X8_put (a1 : Int32) (t_net_size : Int32) (t_order_size : Int32) (t_order_held : Int32) (t_order_knots : Nat → Int32) (h_t_net_size : 0 ≤ t_net_size.toInt ∧ t_net_size.toInt ≤ 14) (h_t_order_size : 0 ≤ t_order_size.toInt ∧ t_order_size.toInt ≤ 14) (h_t_order_knots : ∀ i, 0 ≤ (t_order_knots i).toInt ∧ (t_order_knots i).toInt ≤ 13) : Sat (f_X8_put a1 t_net_size t_order_size t_order_held t_order_knots) (fun r => (0 ≤ (r.2.1).toInt ∧ (r.2.1).toInt ≤ 14) ∧ (∀ i, 0 ≤ ((r.2.2.2) i).toInt ∧ ((r.2.2.2) i).toInt ≤ 13) ∧ True) := by
  unfold f_X8_put
  have l0 : (0 : Int32).toInt = 0 := rfl
  refine sat_cal (s_X4_has a1 t_net_size (by omega)) fun u1 hu1 => ?_
  obtain ⟨hu1_0, -⟩ := hu1
  refine sat_ite (fun hc1 => ?_) (fun hc1 => ?_)
  · have thc1 := congrArg Int32.toInt hc1
    exact sat_some ⟨(by (try dsimp only); omega), h_t_order_knots, trivial⟩
  · have thc1 := neq hc1
    refine sat_cal (s_X2_holds a1 t_order_held) fun u2 hu2 => ?_
    obtain ⟨hu2_0, -⟩ := hu2
    refine sat_ite (fun hc2 => ?_) (fun hc2 => ?_)
    · have thc2 := congrArg Int32.toInt hc2
      refine sat_cal (s_X2_append a1 t_order_size t_order_held t_order_knots (by omega) (by omega) h_t_order_knots) fun u3 hu3 => ?_
      obtain ⟨hu3_0, hu3_2, -⟩ := hu3
      exact sat_some ⟨(by (try dsimp only); omega), hu3_2, trivial⟩
    · have thc2 := neq hc2
      exact sat_some ⟨(by (try dsimp only); omega), h_t_order_knots, trivial⟩
theorem s_X8_wipe (t_order_size : Int32) (t_order_held : Int32) (h_t_order_size : 0 ≤ t_order_size.toInt ∧ t_order_size.toInt ≤ 14) : Sat (f_X8_wipe t_order_size t_order_held) (fun r => (0 ≤ (r.2.1).toInt ∧ (r.2.1).toInt ≤ 14) ∧ True) := by
  unfold f_X8_wipe
  refine sat_bnd fun x1_1 e1 => ?_
  have te1 := congrArg Int32.toInt e1
  refine sat_cal (s_X2_empty t_order_size t_order_held (by omega)) fun u2 hu2 => ?_
  obtain ⟨hu2_0, -⟩ := hu2
  exact sat_some ⟨(by (try dsimp only); omega), trivial⟩
theorem s_X8_make (t_net_size : Int32) (t_net_near : Nat → Int32) (t_order_size : Int32) (t_order_knots : Nat → Int32) (t_bags_size : Int32) (t_bags_masks : Nat → Int32) (t_bags_ups : Nat → Int32) (t_going_left : Int32) (t_going_newEnds : Int32) (t_going_near : Nat → Int32) (h_t_net_size : 0 ≤ t_net_size.toInt ∧ t_net_size.toInt ≤ 14) (h_t_order_size : 0 ≤ t_order_size.toInt ∧ t_order_size.toInt ≤ 14) (h_t_order_knots : ∀ i, 0 ≤ (t_order_knots i).toInt ∧ (t_order_knots i).toInt ≤ 13) (h_t_bags_size : 0 ≤ t_bags_size.toInt ∧ t_bags_size.toInt ≤ 14) (h_t_going_left : 0 ≤ t_going_left.toInt ∧ t_going_left.toInt ≤ 16383) : Sat (f_X8_make t_net_size t_net_near t_order_size t_order_knots t_bags_size t_bags_masks t_bags_ups t_going_left t_going_newEnds t_going_near) (fun r => (0 ≤ (r.2.1).toInt ∧ (r.2.1).toInt ≤ 14) ∧ (0 ≤ (r.2.2.2.2.1).toInt ∧ (r.2.2.2.2.1).toInt ≤ 16383) ∧ True) := by
  unfold f_X8_make
  have l0 : (0 : Int32).toInt = 0 := rfl
  refine sat_ite (fun hc1 => ?_) (fun hc1 => ?_)
  · have thc1 := congrArg Int32.toInt hc1
    exact sat_some ⟨(by (try dsimp only); omega), (by (try dsimp only); omega), trivial⟩
  · have thc1 := neq hc1
    refine sat_ite (fun hc2 => ?_) (fun hc2 => ?_)
    · have thc2 := congrArg Int32.toInt hc2
      refine sat_cal (s_X1_start t_going_left t_going_newEnds t_going_near t_net_size t_net_near (by omega) (by omega)) fun u1 hu1 => ?_
      obtain ⟨hu1_0, -⟩ := hu1
      refine sat_cal (s_X0_takeApart t_bags_size t_bags_masks t_bags_ups t_order_size t_order_knots u1.1 u1.2.1 u1.2.2 (by omega) (by omega) h_t_order_knots (by omega)) fun u2 hu2 => ?_
      obtain ⟨hu2_0, hu2_3, -⟩ := hu2
      refine sat_cal (s_X0_mostKnots u2.1 u2.2.1 (by omega)) fun u3 hu3 => ?_
      exact sat_some ⟨(by (try dsimp only); omega), (by (try dsimp only); omega), trivial⟩
    · have thc2 := neq hc2
      exact sat_some ⟨(by (try dsimp only); omega), (by (try dsimp only); omega), trivial⟩
theorem l_X8_fills_32 (t_net_size : Int32) (t_net_near : Nat → Int32) (t_order_size : Int32) (t_order_knots : Nat → Int32) (h_t_net_size : 0 ≤ t_net_size.toInt ∧ t_net_size.toInt ≤ 14) (h_t_order_size : 0 ≤ t_order_size.toInt ∧ t_order_size.toInt ≤ 14) (h_t_order_knots : ∀ i, 0 ≤ (t_order_knots i).toInt ∧ (t_order_knots i).toInt ≤ 13) : ∀ (n : Nat) (x1 : Int32) (t_going_left : Int32) (t_going_newEnds : Int32) (t_going_near : Nat → Int32), (0 ≤ x1.toInt ∧ x1.toInt ≤ 14) → (0 ≤ t_going_left.toInt ∧ t_going_left.toInt ≤ 16383) → 14 - x1.toInt < (n : Int) → Sat (L_X8_fills_32 t_net_size t_net_near t_order_size t_order_knots n x1 t_going_left t_going_newEnds t_going_near) (fun r => (0 ≤ (r.2.1).toInt ∧ (r.2.1).toInt ≤ 16383) ∧ True) := by
  intro n
  induction n with
  | zero => intro x1 t_going_left t_going_newEnds t_going_near h_x1 h_t_going_left hM; exfalso; omega
  | succ n ih =>
    intro x1 t_going_left t_going_newEnds t_going_near h_x1 h_t_going_left hM
    rw [L_X8_fills_32]
    have l1 : (1 : Int32).toInt = 1 := rfl
    refine sat_ite (fun hc1 => ?_) (fun hc1 => ?_)
    · have thc1 := ple hc1
      exact sat_some ⟨(by (try dsimp only); omega), trivial⟩
    · have thc1 := nle hc1
      refine sat_ldA (okI_of (by omega)) fun v3 e2 => ?_
      have hv3 := ra_get e2 h_t_order_knots
      refine sat_cal (s_X1_letGo v3 t_going_left t_going_newEnds t_going_near (by omega) (by omega)) fun u4 hu4 => ?_
      obtain ⟨hu4_0, -⟩ := hu4
      refine sat_bnd fun x1_5 e3 => ?_
      try (have k4 : (x1 + (1 : Int32)).toInt = x1.toInt + (1 : Int32).toInt := ti_add (by omega) (by omega))
      have te3 := congrArg Int32.toInt e3
      exact ih x1_5 u4.1 u4.2.1 u4.2.2 (by omega) (by omega) (by omega)
theorem s_X8_fills (t_net_size : Int32) (t_net_near : Nat → Int32) (t_order_size : Int32) (t_order_knots : Nat → Int32) (t_going_left : Int32) (t_going_newEnds : Int32) (t_going_near : Nat → Int32) (h_t_net_size : 0 ≤ t_net_size.toInt ∧ t_net_size.toInt ≤ 14) (h_t_order_size : 0 ≤ t_order_size.toInt ∧ t_order_size.toInt ≤ 14) (h_t_order_knots : ∀ i, 0 ≤ (t_order_knots i).toInt ∧ (t_order_knots i).toInt ≤ 13) (h_t_going_left : 0 ≤ t_going_left.toInt ∧ t_going_left.toInt ≤ 16383) : Sat (f_X8_fills t_net_size t_net_near t_order_size t_order_knots t_going_left t_going_newEnds t_going_near) (fun r => (0 ≤ (r.2.1).toInt ∧ (r.2.1).toInt ≤ 16383) ∧ True) := by
  unfold f_X8_fills
  have l0 : (0 : Int32).toInt = 0 := rfl
  refine sat_ite (fun hc1 => ?_) (fun hc1 => ?_)
  · have thc1 := congrArg Int32.toInt hc1
    refine sat_cal (s_X1_start t_going_left t_going_newEnds t_going_near t_net_size t_net_near (by omega) (by omega)) fun u1 hu1 => ?_
    obtain ⟨hu1_0, -⟩ := hu1
    refine sat_bnd fun x1_2 e2 => ?_
    have te2 := congrArg Int32.toInt e2
    have hNN := NN_i
    exact l_X8_fills_32 t_net_size t_net_near t_order_size t_order_knots (by omega) (by omega) h_t_order_knots NN x1_2 u1.1 u1.2.1 u1.2.2 (by omega) (by omega) (by omega)
  · have thc1 := neq hc1
    exact sat_some ⟨(by (try dsimp only); omega), trivial⟩
theorem l_X8_fewest_22 (t_net_size : Int32) (t_net_near : Nat → Int32) (h_t_net_size : 0 ≤ t_net_size.toInt ∧ t_net_size.toInt ≤ 14) : ∀ (n : Nat) (x1 : Int32) (x2 : Int32) (t_order_size : Int32) (t_order_held : Int32) (t_order_knots : Nat → Int32) (t_going_left : Int32) (t_going_newEnds : Int32) (t_going_near : Nat → Int32), (0 ≤ x2.toInt ∧ x2.toInt ≤ 14) → (0 ≤ t_order_size.toInt ∧ t_order_size.toInt ≤ 14) → (∀ i, 0 ≤ (t_order_knots i).toInt ∧ (t_order_knots i).toInt ≤ 13) → (0 ≤ t_going_left.toInt ∧ t_going_left.toInt ≤ 16383) → 14 - x2.toInt < (n : Int) → Sat (L_X8_fewest_22 t_net_size t_net_near n x1 x2 t_order_size t_order_held t_order_knots t_going_left t_going_newEnds t_going_near) (fun r => (0 ≤ (r.2.1).toInt ∧ (r.2.1).toInt ≤ 14) ∧ (∀ i, 0 ≤ ((r.2.2.2.1) i).toInt ∧ ((r.2.2.2.1) i).toInt ≤ 13) ∧ (0 ≤ (r.2.2.2.2.1).toInt ∧ (r.2.2.2.2.1).toInt ≤ 16383) ∧ True) := by
  intro n
  induction n with
  | zero => intro x1 x2 t_order_size t_order_held t_order_knots t_going_left t_going_newEnds t_going_near h_x2 h_t_order_size h_t_order_knots h_t_going_left hM; exfalso; omega
  | succ n ih =>
    intro x1 x2 t_order_size t_order_held t_order_knots t_going_left t_going_newEnds t_going_near h_x2 h_t_order_size h_t_order_knots h_t_going_left hM
    rw [L_X8_fewest_22]
    have l1 : (1 : Int32).toInt = 1 := rfl
    refine sat_ite (fun hc1 => ?_) (fun hc1 => ?_)
    · have thc1 := ple hc1
      exact sat_some ⟨(by (try dsimp only); omega), h_t_order_knots, (by (try dsimp only); omega), trivial⟩
    · have thc1 := nle hc1
      refine sat_cal (s_X1_loneliest t_going_left t_going_near (by omega)) fun u5 hu5 => ?_
      obtain ⟨hu5_0, -⟩ := hu5
      refine sat_bnd fun x3_6 e2 => ?_
      have te2 := congrArg Int32.toInt e2
      refine sat_ldA (okI_of (by omega)) fun v7 e3 => ?_
      refine sat_cal (s_J6_bitCount_0f7a4 v7) fun u8 hu8 => ?_
      obtain ⟨hu8_0, -⟩ := hu8
      refine sat_bnd fun x1_9 e4 => ?_
      have te4 := mm e4
      refine sat_cal (s_X2_append x3_6 t_order_size t_order_held t_order_knots (by omega) (by omega) h_t_order_knots) fun u10 hu10 => ?_
      obtain ⟨hu10_0, hu10_2, -⟩ := hu10
      refine sat_cal (s_X1_letGo x3_6 t_going_left t_going_newEnds t_going_near (by omega) (by omega)) fun u11 hu11 => ?_
      obtain ⟨hu11_0, -⟩ := hu11
      refine sat_bnd fun x2_12 e5 => ?_
      try (have k6 : (x2 + (1 : Int32)).toInt = x2.toInt + (1 : Int32).toInt := ti_add (by omega) (by omega))
      have te5 := congrArg Int32.toInt e5
      exact ih x1_9 x2_12 u10.1 u10.2.1 u10.2.2 u11.1 u11.2.1 u11.2.2 (by omega) (by omega) hu10_2 (by omega) (by omega)
theorem s_X8_fewest (t_net_size : Int32) (t_net_near : Nat → Int32) (t_order_size : Int32) (t_order_held : Int32) (t_order_knots : Nat → Int32) (t_going_left : Int32) (t_going_newEnds : Int32) (t_going_near : Nat → Int32) (h_t_net_size : 0 ≤ t_net_size.toInt ∧ t_net_size.toInt ≤ 14) (h_t_order_size : 0 ≤ t_order_size.toInt ∧ t_order_size.toInt ≤ 14) (h_t_order_knots : ∀ i, 0 ≤ (t_order_knots i).toInt ∧ (t_order_knots i).toInt ≤ 13) (h_t_going_left : 0 ≤ t_going_left.toInt ∧ t_going_left.toInt ≤ 16383) : Sat (f_X8_fewest t_net_size t_net_near t_order_size t_order_held t_order_knots t_going_left t_going_newEnds t_going_near) (fun r => (0 ≤ (r.2.1).toInt ∧ (r.2.1).toInt ≤ 14) ∧ (∀ i, 0 ≤ ((r.2.2.2.1) i).toInt ∧ ((r.2.2.2.1) i).toInt ≤ 13) ∧ (0 ≤ (r.2.2.2.2.1).toInt ∧ (r.2.2.2.2.1).toInt ≤ 16383) ∧ True) := by
  unfold f_X8_fewest
  have lm1 : (-1 : Int32).toInt = -1 := rfl
  have l0 : (0 : Int32).toInt = 0 := rfl
  refine sat_cal (s_X2_empty t_order_size t_order_held (by omega)) fun u1 hu1 => ?_
  obtain ⟨hu1_0, -⟩ := hu1
  refine sat_cal (s_X1_start t_going_left t_going_newEnds t_going_near t_net_size t_net_near (by omega) (by omega)) fun u2 hu2 => ?_
  obtain ⟨hu2_0, -⟩ := hu2
  refine sat_bnd fun x1_3 e1 => ?_
  have te1 := congrArg Int32.toInt e1
  refine sat_bnd fun x2_4 e2 => ?_
  have te2 := congrArg Int32.toInt e2
  have hNN := NN_i
  exact l_X8_fewest_22 t_net_size t_net_near (by omega) NN x1_3 x2_4 u1.1 u1.2 t_order_knots u2.1 u2.2.1 u2.2.2 (by omega) (by omega) h_t_order_knots (by omega) (by omega)
theorem l_X8_lowerBound_15 (t_net_size : Int32) (t_net_near : Nat → Int32) (h_t_net_size : 0 ≤ t_net_size.toInt ∧ t_net_size.toInt ≤ 14) : ∀ (n : Nat) (x1 : Int32) (x2 : Int32) (t_going_left : Int32) (t_going_newEnds : Int32) (t_going_near : Nat → Int32), (-1 ≤ x1.toInt ∧ x1.toInt ≤ 63) → (0 ≤ x2.toInt ∧ x2.toInt ≤ 14) → (0 ≤ t_going_left.toInt ∧ t_going_left.toInt ≤ 16383) → 14 - x2.toInt < (n : Int) → Sat (L_X8_lowerBound_15 t_net_size t_net_near n x1 x2 t_going_left t_going_newEnds t_going_near) (fun r => (-1 ≤ (r.1).toInt ∧ (r.1).toInt ≤ 63) ∧ (0 ≤ (r.2.1).toInt ∧ (r.2.1).toInt ≤ 16383) ∧ True) := by
  intro n
  induction n with
  | zero => intro x1 x2 t_going_left t_going_newEnds t_going_near h_x1 h_x2 h_t_going_left hM; exfalso; omega
  | succ n ih =>
    intro x1 x2 t_going_left t_going_newEnds t_going_near h_x1 h_x2 h_t_going_left hM
    rw [L_X8_lowerBound_15]
    have l1 : (1 : Int32).toInt = 1 := rfl
    refine sat_ite (fun hc1 => ?_) (fun hc1 => ?_)
    · have thc1 := ple hc1
      exact sat_some ⟨(by (try dsimp only); omega), (by (try dsimp only); omega), trivial⟩
    · have thc1 := nle hc1
      refine sat_cal (s_X1_loneliest t_going_left t_going_near (by omega)) fun u4 hu4 => ?_
      obtain ⟨hu4_0, -⟩ := hu4
      refine sat_bnd fun x3_5 e2 => ?_
      have te2 := congrArg Int32.toInt e2
      refine sat_ldA (okI_of (by omega)) fun v6 e3 => ?_
      refine sat_cal (s_J6_bitCount_0f7a4 v6) fun u7 hu7 => ?_
      obtain ⟨hu7_0, -⟩ := hu7
      refine sat_bnd fun x1_8 e4 => ?_
      have te4 := mm e4
      refine sat_cal (s_X1_takeAway x3_5 t_going_left t_going_near (by omega) (by omega)) fun u9 hu9 => ?_
      obtain ⟨hu9_0, -⟩ := hu9
      refine sat_bnd fun x2_10 e5 => ?_
      try (have k6 : (x2 + (1 : Int32)).toInt = x2.toInt + (1 : Int32).toInt := ti_add (by omega) (by omega))
      have te5 := congrArg Int32.toInt e5
      exact ih x1_8 x2_10 u9.1 t_going_newEnds u9.2 (by omega) (by omega) (by omega) (by omega)
theorem s_X8_lowerBound (t_net_size : Int32) (t_net_near : Nat → Int32) (t_going_left : Int32) (t_going_newEnds : Int32) (t_going_near : Nat → Int32) (h_t_net_size : 0 ≤ t_net_size.toInt ∧ t_net_size.toInt ≤ 14) (h_t_going_left : 0 ≤ t_going_left.toInt ∧ t_going_left.toInt ≤ 16383) : Sat (f_X8_lowerBound t_net_size t_net_near t_going_left t_going_newEnds t_going_near) (fun r => (-1 ≤ (r.1).toInt ∧ (r.1).toInt ≤ 63) ∧ (0 ≤ (r.2.1).toInt ∧ (r.2.1).toInt ≤ 16383) ∧ True) := by
  unfold f_X8_lowerBound
  have lm1 : (-1 : Int32).toInt = -1 := rfl
  have l0 : (0 : Int32).toInt = 0 := rfl
  refine sat_cal (s_X1_start t_going_left t_going_newEnds t_going_near t_net_size t_net_near (by omega) (by omega)) fun u1 hu1 => ?_
  obtain ⟨hu1_0, -⟩ := hu1
  refine sat_bnd fun x1_2 e1 => ?_
  have te1 := congrArg Int32.toInt e1
  refine sat_bnd fun x2_3 e2 => ?_
  have te2 := congrArg Int32.toInt e2
  have hNN := NN_i
  exact l_X8_lowerBound_15 t_net_size t_net_near (by omega) NN x1_2 x2_3 u1.1 u1.2.1 u1.2.2 (by omega) (by omega) (by omega) (by omega)
theorem s_X8_row (a1 : Int32) (t_order_size : Int32) (t_order_knots : Nat → Int32) (h_t_order_size : 0 ≤ t_order_size.toInt ∧ t_order_size.toInt ≤ 14) (h_t_order_knots : ∀ i, 0 ≤ (t_order_knots i).toInt ∧ (t_order_knots i).toInt ≤ 13) : Sat (f_X8_row a1 t_order_size t_order_knots) (fun r => True) := by
  unfold f_X8_row
  have l0 : (0 : Int32).toInt = 0 := rfl
  refine sat_ite (fun hc1 => ?_) (fun hc1 => ?_)
  · have thc1 := plt hc1
    exact sat_some trivial
  · have thc1 := nlt hc1
    refine sat_ite (fun hc2 => ?_) (fun hc2 => ?_)
    · have thc2 := ple hc2
      exact sat_some trivial
    · have thc2 := nle hc2
      refine sat_ldA (okI_of (by omega)) fun v1 e3 => ?_
      have hv1 := ra_get e3 h_t_order_knots
      exact sat_some trivial
theorem s_X8_below (t_net_size : Int32) (t_net_near : Nat → Int32) (t_going_left : Int32) (t_going_newEnds : Int32) (t_going_near : Nat → Int32) (h_t_net_size : 0 ≤ t_net_size.toInt ∧ t_net_size.toInt ≤ 14) (h_t_going_left : 0 ≤ t_going_left.toInt ∧ t_going_left.toInt ≤ 16383) : Sat (f_X8_below t_net_size t_net_near t_going_left t_going_newEnds t_going_near) (fun r => (0 ≤ (r.2.1).toInt ∧ (r.2.1).toInt ≤ 16383) ∧ True) := by
  unfold f_X8_below
  refine sat_cal (s_X8_lowerBound t_net_size t_net_near t_going_left t_going_newEnds t_going_near (by omega) (by omega)) fun u1 hu1 => ?_
  obtain ⟨hu1_0, hu1_1, -⟩ := hu1
  exact sat_some ⟨(by (try dsimp only); omega), trivial⟩
theorem s_X8_clear (t_bags_size : Int32) (h_t_bags_size : 0 ≤ t_bags_size.toInt ∧ t_bags_size.toInt ≤ 14) : Sat (f_X8_clear t_bags_size) (fun r => (0 ≤ (r.2).toInt ∧ (r.2).toInt ≤ 14) ∧ True) := by
  unfold f_X8_clear
  refine sat_bnd fun x1_1 e1 => ?_
  have te1 := congrArg Int32.toInt e1
  refine sat_cal (s_X0_empty t_bags_size (by omega)) fun u2 hu2 => ?_
  obtain ⟨hu2_0, -⟩ := hu2
  exact sat_some ⟨(by (try dsimp only); omega), trivial⟩
theorem s_X8_bag (a1 : Int32) (t_net_size : Int32) (t_bags_size : Int32) (t_bags_masks : Nat → Int32) (t_bags_ups : Nat → Int32) (h_t_net_size : 0 ≤ t_net_size.toInt ∧ t_net_size.toInt ≤ 14) (h_t_bags_size : 0 ≤ t_bags_size.toInt ∧ t_bags_size.toInt ≤ 14) : Sat (f_X8_bag a1 t_net_size t_bags_size t_bags_masks t_bags_ups) (fun r => (0 ≤ (r.2.1).toInt ∧ (r.2.1).toInt ≤ 14) ∧ True) := by
  unfold f_X8_bag
  have l0 : (0 : Int32).toInt = 0 := rfl
  have l14 : (14 : Int32).toInt = 14 := rfl
  refine sat_ite (fun hc1 => ?_) (fun hc1 => ?_)
  · have thc1 := congrArg Int32.toInt hc1
    exact sat_some ⟨(by (try dsimp only); omega), trivial⟩
  · have thc1 := neq hc1
    refine sat_cal (s_X4_everyKnot t_net_size (by omega)) fun u1 hu1 => ?_
    obtain ⟨hu1_0, -⟩ := hu1
    refine sat_ite (fun hc2 => ?_) (fun hc2 => ?_)
    · have thc2 := congrArg Int32.toInt hc2
      refine sat_ite (fun hc3 => ?_) (fun hc3 => ?_)
      · have thc3 := plt hc3
        refine sat_cal (s_X0_append a1 t_bags_size t_bags_masks t_bags_ups (by omega)) fun u2 hu2 => ?_
        obtain ⟨hu2_1, -⟩ := hu2
        exact sat_some ⟨(by (try dsimp only); omega), trivial⟩
      · have thc3 := nlt hc3
        exact sat_some ⟨(by (try dsimp only); omega), trivial⟩
    · have thc2 := neq hc2
      exact sat_some ⟨(by (try dsimp only); omega), trivial⟩
theorem s_X8_hang (a1 : Int32) (a2 : Int32) (t_bags_size : Int32) (t_bags_ups : Nat → Int32) (h_t_bags_size : 0 ≤ t_bags_size.toInt ∧ t_bags_size.toInt ≤ 14) : Sat (f_X8_hang a1 a2 t_bags_size t_bags_ups) (fun r => True) := by
  unfold f_X8_hang
  have l0 : (0 : Int32).toInt = 0 := rfl
  have l1 : (1 : Int32).toInt = 1 := rfl
  refine sat_cal (s_X0_has a1 t_bags_size (by omega)) fun u1 hu1 => ?_
  obtain ⟨hu1_0, -⟩ := hu1
  refine sat_ite (fun hc1 => ?_) (fun hc1 => ?_)
  · have thc1 := congrArg Int32.toInt hc1
    exact sat_some trivial
  · have thc1 := neq hc1
    refine sat_cal (s_X0_has a2 t_bags_size (by omega)) fun u2 hu2 => ?_
    obtain ⟨hu2_0, -⟩ := hu2
    refine sat_ite (fun hc2 => ?_) (fun hc2 => ?_)
    · have thc2 := congrArg Int32.toInt hc2
      exact sat_some trivial
    · have thc2 := neq hc2
      try (have k4 : (t_bags_size - (1 : Int32)).toInt = t_bags_size.toInt - (1 : Int32).toInt := ti_sub (by omega) (by omega))
      refine sat_ite (fun hc3 => ?_) (fun hc3 => ?_)
      · have thc3 := congrArg Int32.toInt hc3
        exact sat_some trivial
      · have thc3 := neq hc3
        refine sat_ite (fun hc5 => ?_) (fun hc5 => ?_)
        · have thc5 := plt hc5
          refine sat_ldA (okI_of (by omega)) fun v3 e6 => ?_
          refine sat_bnd fun x3_4 e7 => ?_
          have te7 := congrArg Int32.toInt e7
          refine sat_stI (okI_of (by omega)) fun t_bags_ups_5 e8 => ?_
          exact sat_some trivial
        · have thc5 := nlt hc5
          exact sat_some trivial
theorem s_X8_bagged (a1 : Int32) (a2 : Int32) (t_bags_size : Int32) (t_bags_masks : Nat → Int32) (t_bags_ups : Nat → Int32) (h_t_bags_size : 0 ≤ t_bags_size.toInt ∧ t_bags_size.toInt ≤ 14) : Sat (f_X8_bagged a1 a2 t_bags_size t_bags_masks t_bags_ups) (fun r => True) := by
  unfold f_X8_bagged
  have l0 : (0 : Int32).toInt = 0 := rfl
  refine sat_cal (s_X0_has a1 t_bags_size (by omega)) fun u1 hu1 => ?_
  obtain ⟨hu1_0, -⟩ := hu1
  refine sat_ite (fun hc1 => ?_) (fun hc1 => ?_)
  · have thc1 := congrArg Int32.toInt hc1
    exact sat_some trivial
  · have thc1 := neq hc1
    refine sat_ite (fun hc2 => ?_) (fun hc2 => ?_)
    · have thc2 := congrArg Int32.toInt hc2
      refine sat_ldA (okI_of (by omega)) fun v3 e3 => ?_
      exact sat_some trivial
    · have thc2 := neq hc2
      refine sat_ite (fun hc4 => ?_) (fun hc4 => ?_)
      · have thc4 := congrArg Int32.toInt hc4
        refine sat_ldA (okI_of (by omega)) fun v5 e5 => ?_
        exact sat_some trivial
      · have thc4 := neq hc4
        refine sat_ite (fun hc6 => ?_) (fun hc6 => ?_)
        · have thc6 := congrArg Int32.toInt hc6
          refine sat_cal (s_X0_hangingOn a1 t_bags_size t_bags_ups (by omega)) fun u7 hu7 => ?_
          exact sat_some trivial
        · have thc6 := neq hc6
          exact sat_some trivial
theorem s_X8_sound (t_net_size : Int32) (t_net_near : Nat → Int32) (t_bags_size : Int32) (t_bags_masks : Nat → Int32) (t_bags_ups : Nat → Int32) (h_t_net_size : 0 ≤ t_net_size.toInt ∧ t_net_size.toInt ≤ 14) (h_t_bags_size : 0 ≤ t_bags_size.toInt ∧ t_bags_size.toInt ≤ 14) : Sat (f_X8_sound t_net_size t_net_near t_bags_size t_bags_masks t_bags_ups) (fun r => True) := by
  unfold f_X8_sound
  have l0 : (0 : Int32).toInt = 0 := rfl
  refine sat_ite (fun hc1 => ?_) (fun hc1 => ?_)
  · have thc1 := congrArg Int32.toInt hc1
    exact sat_some trivial
  · have thc1 := neq hc1
    refine sat_cal (s_X0_fault t_bags_size t_bags_masks t_bags_ups t_net_size t_net_near (by omega) (by omega)) fun u1 hu1 => ?_
    exact sat_some trivial
theorem s_X8_width (t_bags_size : Int32) (t_bags_masks : Nat → Int32) (h_t_bags_size : 0 ≤ t_bags_size.toInt ∧ t_bags_size.toInt ≤ 14) : Sat (f_X8_width t_bags_size t_bags_masks) (fun r => True) := by
  unfold f_X8_width
  have l0 : (0 : Int32).toInt = 0 := rfl
  refine sat_ite (fun hc1 => ?_) (fun hc1 => ?_)
  · have thc1 := congrArg Int32.toInt hc1
    exact sat_some trivial
  · have thc1 := neq hc1
    refine sat_cal (s_X0_mostKnots t_bags_size t_bags_masks (by omega)) fun u1 hu1 => ?_
    exact sat_some trivial
theorem s_X8_isSound (t_net_size : Int32) (t_net_near : Nat → Int32) (t_bags_size : Int32) (t_bags_masks : Nat → Int32) (t_bags_ups : Nat → Int32) (h_t_net_size : 0 ≤ t_net_size.toInt ∧ t_net_size.toInt ≤ 14) (h_t_bags_size : 0 ≤ t_bags_size.toInt ∧ t_bags_size.toInt ≤ 14) : Sat (f_X8_isSound t_net_size t_net_near t_bags_size t_bags_masks t_bags_ups) (fun r => (0 ≤ r.toInt ∧ r.toInt ≤ 1) ∧ True) := by
  unfold f_X8_isSound
  have l0 : (0 : Int32).toInt = 0 := rfl
  have l1 : (1 : Int32).toInt = 1 := rfl
  refine sat_ite (fun hc1 => ?_) (fun hc1 => ?_)
  · have thc1 := ple hc1
    exact sat_some ⟨(by omega), trivial⟩
  · have thc1 := nle hc1
    refine sat_cal (s_X0_fault t_bags_size t_bags_masks t_bags_ups t_net_size t_net_near (by omega) (by omega)) fun u1 hu1 => ?_
    refine sat_ite (fun hc2 => ?_) (fun hc2 => ?_)
    · have thc2 := congrArg Int32.toInt hc2
      exact sat_some ⟨(by omega), trivial⟩
    · have thc2 := neq hc2
      exact sat_some ⟨(by omega), trivial⟩
theorem l_X8_separator_12 (t_net_size : Int32) (t_net_near : Nat → Int32) (t_bags_size : Int32) (t_bags_masks : Nat → Int32) (t_bags_ups : Nat → Int32) (h_t_net_size : 0 ≤ t_net_size.toInt ∧ t_net_size.toInt ≤ 14) (h_t_bags_size : 0 ≤ t_bags_size.toInt ∧ t_bags_size.toInt ≤ 14) : ∀ (n : Nat) (x1 : Int32), (0 ≤ x1.toInt ∧ x1.toInt ≤ 14) → 14 - x1.toInt < (n : Int) → Sat (L_X8_separator_12 t_net_size t_net_near t_bags_size t_bags_masks t_bags_ups n x1) (fun r => True) := by
  intro n
  induction n with
  | zero => intro x1 h_x1 hM; exfalso; omega
  | succ n ih =>
    intro x1 h_x1 hM
    rw [L_X8_separator_12]
    have l1 : (1 : Int32).toInt = 1 := rfl
    refine sat_ite (fun hc1 => ?_) (fun hc1 => ?_)
    · have thc1 := ple hc1
      exact sat_some trivial
    · have thc1 := nle hc1
      refine sat_cal (s_X4_everyKnot t_net_size (by omega)) fun u3 hu3 => ?_
      obtain ⟨hu3_0, -⟩ := hu3
      refine sat_ldA (okI_of (by omega)) fun v4 e2 => ?_
      refine sat_cal (s_X4_largestPart (u3 &&& (v4 ^^^ (-1 : Int32))) t_net_size t_net_near (by omega)) fun u5 hu5 => ?_
      refine sat_ite (fun hc3 => ?_) (fun hc3 => ?_)
      · have thc3 := plt hc3
        refine sat_bnd fun x1_6 e4 => ?_
        try (have k5 : (x1 + (1 : Int32)).toInt = x1.toInt + (1 : Int32).toInt := ti_add (by omega) (by omega))
        have te4 := congrArg Int32.toInt e4
        exact ih x1_6 (by omega) (by omega)
      · have thc3 := nlt hc3
        exact sat_some trivial
theorem s_X8_separator (t_net_size : Int32) (t_net_near : Nat → Int32) (t_bags_size : Int32) (t_bags_masks : Nat → Int32) (t_bags_ups : Nat → Int32) (h_t_net_size : 0 ≤ t_net_size.toInt ∧ t_net_size.toInt ≤ 14) (h_t_bags_size : 0 ≤ t_bags_size.toInt ∧ t_bags_size.toInt ≤ 14) : Sat (f_X8_separator t_net_size t_net_near t_bags_size t_bags_masks t_bags_ups) (fun r => True) := by
  unfold f_X8_separator
  have l0 : (0 : Int32).toInt = 0 := rfl
  refine sat_cal (s_X8_isSound t_net_size t_net_near t_bags_size t_bags_masks t_bags_ups (by omega) (by omega)) fun u1 hu1 => ?_
  obtain ⟨hu1_0, -⟩ := hu1
  refine sat_ite (fun hc1 => ?_) (fun hc1 => ?_)
  · have thc1 := congrArg Int32.toInt hc1
    exact sat_some trivial
  · have thc1 := neq hc1
    refine sat_bnd fun x1_2 e2 => ?_
    have te2 := congrArg Int32.toInt e2
    have hNN := NN_i
    exact l_X8_separator_12 t_net_size t_net_near t_bags_size t_bags_masks t_bags_ups (by omega) (by omega) NN x1_2 (by omega) (by omega)
theorem s_X8_states (a1 : Int32) (t_law_size : Int32) (t_law_factors : Nat → Int32) (t_law_pairFactors : Nat → Int32) (t_law_barred : Nat → Int32) (t_law_forbidden : Nat → Int32) (h_t_law_size : 1 ≤ t_law_size.toInt ∧ t_law_size.toInt ≤ 4) : Sat (f_X8_states a1 t_law_size t_law_factors t_law_pairFactors t_law_barred t_law_forbidden) (fun r => (1 ≤ (r.2.1).toInt ∧ (r.2.1).toInt ≤ 4) ∧ True) := by
  unfold f_X8_states
  have l1 : (1 : Int32).toInt = 1 := rfl
  have l4 : (4 : Int32).toInt = 4 := rfl
  refine sat_ite (fun hc1 => ?_) (fun hc1 => ?_)
  · have thc1 := plt hc1
    exact sat_some ⟨(by (try dsimp only); omega), trivial⟩
  · have thc1 := nlt hc1
    refine sat_ite (fun hc2 => ?_) (fun hc2 => ?_)
    · have thc2 := ple hc2
      refine sat_bnd fun x2_1 e3 => ?_
      have te3 := congrArg Int32.toInt e3
      refine sat_cal (s_X3_startAgain a1 t_law_size t_law_factors t_law_pairFactors t_law_barred t_law_forbidden (by omega) (by omega)) fun u2 hu2 => ?_
      obtain ⟨hu2_0, -⟩ := hu2
      exact sat_some ⟨(by (try dsimp only); omega), trivial⟩
    · have thc2 := nle hc2
      exact sat_some ⟨(by (try dsimp only); omega), trivial⟩
theorem s_X8_factor (a1 : Int32) (a2 : Int32) (t_law_size : Int32) (t_law_factors : Nat → Int32) (h_t_law_size : 1 ≤ t_law_size.toInt ∧ t_law_size.toInt ≤ 4) : Sat (f_X8_factor a1 a2 t_law_size t_law_factors) (fun r => True) := by
  unfold f_X8_factor
  have l0 : (0 : Int32).toInt = 0 := rfl
  refine sat_cal (s_X3_has a1 t_law_size (by omega)) fun u1 hu1 => ?_
  obtain ⟨hu1_0, -⟩ := hu1
  refine sat_ite (fun hc1 => ?_) (fun hc1 => ?_)
  · have thc1 := congrArg Int32.toInt hc1
    exact sat_some trivial
  · have thc1 := neq hc1
    refine sat_cal (s_X8_isFactor a2) fun u2 hu2 => ?_
    obtain ⟨hu2_0, -⟩ := hu2
    refine sat_ite (fun hc2 => ?_) (fun hc2 => ?_)
    · have thc2 := congrArg Int32.toInt hc2
      exact sat_some trivial
    · have thc2 := neq hc2
      refine sat_ldA (okI_of (by omega)) fun v3 e3 => ?_
      refine sat_bnd fun x3_4 e4 => ?_
      have te4 := congrArg Int32.toInt e4
      refine sat_stI (okI_of (by omega)) fun t_law_factors_5 e5 => ?_
      exact sat_some trivial
theorem j_X8_pair_80  : ∀ (a1 : Int32) (a2 : Int32) (a3 : Int32) (a4 : Int32) (t_law_size : Int32) (s0 : Int32) (t_law_pairFactors : Nat → Int32) (t_law_barred : Nat → Int32), (0 ≤ a1.toInt ∧ a1.toInt ≤ 3) → (0 ≤ a2.toInt ∧ a2.toInt ≤ 3) → (1 ≤ t_law_size.toInt ∧ t_law_size.toInt ≤ 4) → Sat (J_X8_pair_80 a1 a2 a3 a4 t_law_size s0 t_law_pairFactors t_law_barred) (fun r => True) := by
  intro a1 a2 a3 a4 t_law_size s0 t_law_pairFactors t_law_barred h_a1 h_a2 h_t_law_size
  unfold J_X8_pair_80
  have l0 : (0 : Int32).toInt = 0 := rfl
  refine sat_bnd fun x5_6 e1 => ?_
  have te1 := congrArg Int32.toInt e1
  refine sat_ite (fun hc2 => ?_) (fun hc2 => ?_)
  · have thc2 := congrArg Int32.toInt hc2
    refine sat_cal (s_X3_setPair a1 a2 (1 : Int32) a4 t_law_pairFactors t_law_barred (by omega) (by omega)) fun u8 hu8 => ?_
    exact sat_some trivial
  · have thc2 := neq hc2
    refine sat_cal (s_X3_setPair a1 a2 (0 : Int32) a4 t_law_pairFactors t_law_barred (by omega) (by omega)) fun u7 hu7 => ?_
    exact sat_some trivial
theorem s_X8_pair (a1 : Int32) (a2 : Int32) (a3 : Int32) (a4 : Int32) (t_law_size : Int32) (t_law_pairFactors : Nat → Int32) (t_law_barred : Nat → Int32) (h_t_law_size : 1 ≤ t_law_size.toInt ∧ t_law_size.toInt ≤ 4) : Sat (f_X8_pair a1 a2 a3 a4 t_law_size t_law_pairFactors t_law_barred) (fun r => True) := by
  unfold f_X8_pair
  have l0 : (0 : Int32).toInt = 0 := rfl
  have l1 : (1 : Int32).toInt = 1 := rfl
  have l4 : (4 : Int32).toInt = 4 := rfl
  refine sat_cal (s_X3_has a1 t_law_size (by omega)) fun u1 hu1 => ?_
  obtain ⟨hu1_0, -⟩ := hu1
  refine sat_ite (fun hc1 => ?_) (fun hc1 => ?_)
  · have thc1 := congrArg Int32.toInt hc1
    exact sat_some trivial
  · have thc1 := neq hc1
    refine sat_cal (s_X3_has a2 t_law_size (by omega)) fun u2 hu2 => ?_
    obtain ⟨hu2_0, -⟩ := hu2
    refine sat_ite (fun hc2 => ?_) (fun hc2 => ?_)
    · have thc2 := congrArg Int32.toInt hc2
      exact sat_some trivial
    · have thc2 := neq hc2
      refine sat_ite (fun hc3 => ?_) (fun hc3 => ?_)
      · have thc3 := plt hc3
        exact sat_some trivial
      · have thc3 := nlt hc3
        refine sat_ite (fun hc4 => ?_) (fun hc4 => ?_)
        · have thc4 := plt hc4
          exact sat_some trivial
        · have thc4 := nlt hc4
          refine sat_cal (s_X8_isFactor a4) fun u3 hu3 => ?_
          obtain ⟨hu3_0, -⟩ := hu3
          refine sat_ite (fun hc5 => ?_) (fun hc5 => ?_)
          · have thc5 := congrArg Int32.toInt hc5
            exact sat_some trivial
          · have thc5 := neq hc5
            try (have k7 : (a1 * (4 : Int32)).toInt = a1.toInt * 4 := ti_mulc rfl (by omega))
            try (have k8 : ((a1 * (4 : Int32)) + a2).toInt = (a1 * (4 : Int32)).toInt + a2.toInt := ti_add (by omega) (by omega))
            refine sat_ldA (okI_of (by omega)) fun v4 e6 => ?_
            refine sat_ite (fun hc9 => ?_) (fun hc9 => ?_)
            · have thc9 := congrArg Int32.toInt hc9
              refine sat_ldA (okI_of (by omega)) fun v5 e10 => ?_
              exact j_X8_pair_80 a1 a2 a3 a4 t_law_size (v5 + (100 : Int32)) t_law_pairFactors t_law_barred (by omega) (by omega) (by omega)
            · have thc9 := neq hc9
              exact j_X8_pair_80 a1 a2 a3 a4 t_law_size (0 : Int32) t_law_pairFactors t_law_barred (by omega) (by omega) (by omega)
theorem s_X8_forbid (a1 : Int32) (a2 : Int32) (t_net_size : Int32) (t_law_forbidden : Nat → Int32) (h_t_net_size : 0 ≤ t_net_size.toInt ∧ t_net_size.toInt ≤ 14) : Sat (f_X8_forbid a1 a2 t_net_size t_law_forbidden) (fun r => True) := by
  unfold f_X8_forbid
  have l0 : (0 : Int32).toInt = 0 := rfl
  have l15 : (15 : Int32).toInt = 15 := rfl
  refine sat_cal (s_X4_has a1 t_net_size (by omega)) fun u1 hu1 => ?_
  obtain ⟨hu1_0, -⟩ := hu1
  refine sat_ite (fun hc1 => ?_) (fun hc1 => ?_)
  · have thc1 := congrArg Int32.toInt hc1
    exact sat_some trivial
  · have thc1 := neq hc1
    refine sat_ite (fun hc2 => ?_) (fun hc2 => ?_)
    · have thc2 := plt hc2
      exact sat_some trivial
    · have thc2 := nlt hc2
      refine sat_ite (fun hc3 => ?_) (fun hc3 => ?_)
      · have thc3 := ple hc3
        refine sat_ldA (okI_of (by omega)) fun v2 e4 => ?_
        refine sat_bnd fun x3_3 e5 => ?_
        have te5 := congrArg Int32.toInt e5
        refine sat_stI (okI_of (by omega)) fun t_law_forbidden_4 e6 => ?_
        exact sat_some trivial
      · have thc3 := nle hc3
        exact sat_some trivial
theorem s_X8_canAsk (t_net_size : Int32) (t_net_near : Nat → Int32) (t_bags_size : Int32) (t_bags_masks : Nat → Int32) (t_bags_ups : Nat → Int32) (h_t_net_size : 0 ≤ t_net_size.toInt ∧ t_net_size.toInt ≤ 14) (h_t_bags_size : 0 ≤ t_bags_size.toInt ∧ t_bags_size.toInt ≤ 14) : Sat (f_X8_canAsk t_net_size t_net_near t_bags_size t_bags_masks t_bags_ups) (fun r => (0 ≤ r.toInt ∧ r.toInt ≤ 1) ∧ True) := by
  unfold f_X8_canAsk
  have l0 : (0 : Int32).toInt = 0 := rfl
  have l4 : (4 : Int32).toInt = 4 := rfl
  have l1 : (1 : Int32).toInt = 1 := rfl
  refine sat_cal (s_X8_isSound t_net_size t_net_near t_bags_size t_bags_masks t_bags_ups (by omega) (by omega)) fun u1 hu1 => ?_
  obtain ⟨hu1_0, -⟩ := hu1
  refine sat_ite (fun hc1 => ?_) (fun hc1 => ?_)
  · have thc1 := congrArg Int32.toInt hc1
    exact sat_some ⟨(by omega), trivial⟩
  · have thc1 := neq hc1
    refine sat_cal (s_X0_mostKnots t_bags_size t_bags_masks (by omega)) fun u2 hu2 => ?_
    try (have k3 : (u2 - (1 : Int32)).toInt = u2.toInt - (1 : Int32).toInt := ti_sub (by omega) (by omega))
    refine sat_ite (fun hc2 => ?_) (fun hc2 => ?_)
    · have thc2 := plt hc2
      exact sat_some ⟨(by omega), trivial⟩
    · have thc2 := nlt hc2
      exact sat_some ⟨(by omega), trivial⟩
theorem s_X8_count (a1 : Int32) (t_net_size : Int32) (t_net_edges : Int32) (t_net_near : Nat → Int32) (t_order_size : Int32) (t_bags_size : Int32) (t_bags_masks : Nat → Int32) (t_bags_ups : Nat → Int32) (t_law_size : Int32) (h_t_net_size : 0 ≤ t_net_size.toInt ∧ t_net_size.toInt ≤ 14) (h_t_order_size : 0 ≤ t_order_size.toInt ∧ t_order_size.toInt ≤ 14) (h_t_bags_size : 0 ≤ t_bags_size.toInt ∧ t_bags_size.toInt ≤ 14) (h_t_law_size : 1 ≤ t_law_size.toInt ∧ t_law_size.toInt ≤ 4) : Sat (f_X8_count a1 t_net_size t_net_edges t_net_near t_order_size t_bags_size t_bags_masks t_bags_ups t_law_size) (fun r => True) := by
  unfold f_X8_count
  have l0 : (0 : Int32).toInt = 0 := rfl
  refine sat_ite (fun hc1 => ?_) (fun hc1 => ?_)
  · have thc1 := congrArg Int32.toInt hc1
    exact sat_some trivial
  · have thc1 := neq hc1
    refine sat_ite (fun hc2 => ?_) (fun hc2 => ?_)
    · have thc2 := congrArg Int32.toInt hc2
      exact sat_some trivial
    · have thc2 := neq hc2
      refine sat_ite (fun hc3 => ?_) (fun hc3 => ?_)
      · have thc3 := congrArg Int32.toInt hc3
        exact sat_some trivial
      · have thc3 := neq hc3
        refine sat_ite (fun hc4 => ?_) (fun hc4 => ?_)
        · have thc4 := congrArg Int32.toInt hc4
          exact sat_some trivial
        · have thc4 := neq hc4
          refine sat_ite (fun hc5 => ?_) (fun hc5 => ?_)
          · have thc5 := congrArg Int32.toInt hc5
            exact sat_some trivial
          · have thc5 := neq hc5
            refine sat_ite (fun hc6 => ?_) (fun hc6 => ?_)
            · have thc6 := congrArg Int32.toInt hc6
              refine sat_cal (s_X8_isSound t_net_size t_net_near t_bags_size t_bags_masks t_bags_ups (by omega) (by omega)) fun u7 hu7 => ?_
              obtain ⟨hu7_0, -⟩ := hu7
              refine sat_ite (fun hc7 => ?_) (fun hc7 => ?_)
              · have thc7 := congrArg Int32.toInt hc7
                exact sat_some trivial
              · have thc7 := neq hc7
                exact sat_some trivial
            · have thc6 := neq hc6
              exact sat_some trivial
theorem j_X6_bestOrder_78 (a3 : Int32) (u_size : Int32) (u_near : Nat → Int32) (k_39 : Int32 → Int32 → Int32 → Int32 → (Nat → Int32) → Int32 → Int32 → Int32 → (Nat → Int32) → (Nat → Int64) → (Nat → Int32) → (Nat → Int32) → (Nat → Nat → Int32) → Option (Int32 × Int32 × Int32 × (Nat → Int32) × Int32 × Int32 × Int32 × (Nat → Int32) × (Nat → Int64) × (Nat → Int32) × (Nat → Int32) × (Nat → Nat → Int32))) (g_39 : Int) (h_a3 : -1 ≤ a3.toInt ∧ a3.toInt ≤ 63) (h_u_size : 0 ≤ u_size.toInt ∧ u_size.toInt ≤ 14) (hk_39 : ∀ (x4 : Int32) (x5 : Int32) (v_size : Int32) (v_held : Int32) (v_knots : Nat → Int32) (t_limit : Int32) (t_rest_left : Int32) (t_rest_newEnds : Int32) (t_rest_near : Nat → Int32) (t_stuck : Nat → Int64) (lf : Nat → Int32) (ne : Nat → Int32) (nr : Nat → Nat → Int32), (-1 ≤ x4.toInt ∧ x4.toInt ≤ 63) → (0 ≤ x5.toInt ∧ x5.toInt ≤ 14) → (0 ≤ v_size.toInt ∧ v_size.toInt ≤ 14) → (∀ i, 0 ≤ (v_knots i).toInt ∧ (v_knots i).toInt ≤ 13) → (0 ≤ t_rest_left.toInt ∧ t_rest_left.toInt ≤ 16383) → (∀ i, 0 ≤ (lf i).toInt ∧ (lf i).toInt ≤ 16383) → (14 - x5.toInt < g_39) → Sat (k_39 x4 x5 v_size v_held v_knots t_limit t_rest_left t_rest_newEnds t_rest_near t_stuck lf ne nr) (fun r => (0 ≤ (r.2.1).toInt ∧ (r.2.1).toInt ≤ 14) ∧ (∀ i, 0 ≤ ((r.2.2.2.1) i).toInt ∧ ((r.2.2.2.1) i).toInt ≤ 13) ∧ (0 ≤ (r.2.2.2.2.2.1).toInt ∧ (r.2.2.2.2.2.1).toInt ≤ 16383) ∧ (∀ i, 0 ≤ ((r.2.2.2.2.2.2.2.2.2.1) i).toInt ∧ ((r.2.2.2.2.2.2.2.2.2.1) i).toInt ≤ 16383) ∧ True)) : ∀ (x4 : Int32) (x5 : Int32) (x6 : Int32) (v_size : Int32) (v_held : Int32) (v_knots : Nat → Int32) (t_limit : Int32) (t_rest_left : Int32) (t_rest_newEnds : Int32) (t_rest_near : Nat → Int32) (t_stuck : Nat → Int64) (lf : Nat → Int32) (ne : Nat → Int32) (nr : Nat → Nat → Int32), (-1 ≤ x4.toInt ∧ x4.toInt ≤ 63) → (0 ≤ x5.toInt ∧ x5.toInt ≤ 13) → (0 ≤ x6.toInt ∧ x6.toInt ≤ 13) → (0 ≤ v_size.toInt ∧ v_size.toInt ≤ 14) → (∀ i, 0 ≤ (v_knots i).toInt ∧ (v_knots i).toInt ≤ 13) → (0 ≤ t_rest_left.toInt ∧ t_rest_left.toInt ≤ 16383) → (∀ i, 0 ≤ (lf i).toInt ∧ (lf i).toInt ≤ 16383) → (14 - x5.toInt ≤ g_39) → Sat (J_X6_bestOrder_78 a3 u_size u_near k_39 x4 x5 x6 v_size v_held v_knots t_limit t_rest_left t_rest_newEnds t_rest_near t_stuck lf ne nr) (fun r => (0 ≤ (r.2.1).toInt ∧ (r.2.1).toInt ≤ 14) ∧ (∀ i, 0 ≤ ((r.2.2.2.1) i).toInt ∧ ((r.2.2.2.1) i).toInt ≤ 13) ∧ (0 ≤ (r.2.2.2.2.2.1).toInt ∧ (r.2.2.2.2.2.1).toInt ≤ 16383) ∧ (∀ i, 0 ≤ ((r.2.2.2.2.2.2.2.2.2.1) i).toInt ∧ ((r.2.2.2.2.2.2.2.2.2.1) i).toInt ≤ 16383) ∧ True) := by
  intro x4 x5 x6 v_size v_held v_knots t_limit t_rest_left t_rest_newEnds t_rest_near t_stuck lf ne nr h_x4 h_x5 h_x6 h_v_size h_v_knots h_t_rest_left h_lf hg_39
  unfold J_X6_bestOrder_78
  have l1 : (1 : Int32).toInt = 1 := rfl
  refine sat_cal (s_X2_append x6 v_size v_held v_knots (by omega) (by omega) h_v_knots) fun u5 hu5 => ?_
  obtain ⟨hu5_0, hu5_2, -⟩ := hu5
  refine sat_cal (s_X1_letGo x6 t_rest_left t_rest_newEnds t_rest_near (by omega) (by omega)) fun u6 hu6 => ?_
  obtain ⟨hu6_0, -⟩ := hu6
  refine sat_bnd fun x5_7 e1 => ?_
  try (have k2 : (x5 + (1 : Int32)).toInt = x5.toInt + (1 : Int32).toInt := ti_add (by omega) (by omega))
  have te1 := congrArg Int32.toInt e1
  exact hk_39 x4 x5_7 u5.1 u5.2.1 u5.2.2 t_limit u6.1 u6.2.1 u6.2.2 t_stuck lf ne nr (by omega) (by omega) (by omega) hu5_2 (by omega) h_lf (by omega)
theorem l_X6_bestOrder_51 (a3 : Int32) (u_size : Int32) (u_near : Nat → Int32) (k_39 : Int32 → Int32 → Int32 → Int32 → (Nat → Int32) → Int32 → Int32 → Int32 → (Nat → Int32) → (Nat → Int64) → (Nat → Int32) → (Nat → Int32) → (Nat → Nat → Int32) → Option (Int32 × Int32 × Int32 × (Nat → Int32) × Int32 × Int32 × Int32 × (Nat → Int32) × (Nat → Int64) × (Nat → Int32) × (Nat → Int32) × (Nat → Nat → Int32))) (g_39 : Int) (h_a3 : -1 ≤ a3.toInt ∧ a3.toInt ≤ 63) (h_u_size : 0 ≤ u_size.toInt ∧ u_size.toInt ≤ 14) (hk_39 : ∀ (x4 : Int32) (x5 : Int32) (v_size : Int32) (v_held : Int32) (v_knots : Nat → Int32) (t_limit : Int32) (t_rest_left : Int32) (t_rest_newEnds : Int32) (t_rest_near : Nat → Int32) (t_stuck : Nat → Int64) (lf : Nat → Int32) (ne : Nat → Int32) (nr : Nat → Nat → Int32), (-1 ≤ x4.toInt ∧ x4.toInt ≤ 63) → (0 ≤ x5.toInt ∧ x5.toInt ≤ 14) → (0 ≤ v_size.toInt ∧ v_size.toInt ≤ 14) → (∀ i, 0 ≤ (v_knots i).toInt ∧ (v_knots i).toInt ≤ 13) → (0 ≤ t_rest_left.toInt ∧ t_rest_left.toInt ≤ 16383) → (∀ i, 0 ≤ (lf i).toInt ∧ (lf i).toInt ≤ 16383) → (14 - x5.toInt < g_39) → Sat (k_39 x4 x5 v_size v_held v_knots t_limit t_rest_left t_rest_newEnds t_rest_near t_stuck lf ne nr) (fun r => (0 ≤ (r.2.1).toInt ∧ (r.2.1).toInt ≤ 14) ∧ (∀ i, 0 ≤ ((r.2.2.2.1) i).toInt ∧ ((r.2.2.2.1) i).toInt ≤ 13) ∧ (0 ≤ (r.2.2.2.2.2.1).toInt ∧ (r.2.2.2.2.2.1).toInt ≤ 16383) ∧ (∀ i, 0 ≤ ((r.2.2.2.2.2.2.2.2.2.1) i).toInt ∧ ((r.2.2.2.2.2.2.2.2.2.1) i).toInt ≤ 16383) ∧ True)) : ∀ (n : Nat) (x4 : Int32) (x5 : Int32) (x6 : Int32) (v_size : Int32) (v_held : Int32) (v_knots : Nat → Int32) (t_limit : Int32) (t_rest_left : Int32) (t_rest_newEnds : Int32) (t_rest_near : Nat → Int32) (t_stuck : Nat → Int64) (lf : Nat → Int32) (ne : Nat → Int32) (nr : Nat → Nat → Int32), (-1 ≤ x4.toInt ∧ x4.toInt ≤ 63) → (0 ≤ x5.toInt ∧ x5.toInt ≤ 13) → (0 ≤ x6.toInt ∧ x6.toInt ≤ 13) → (0 ≤ v_size.toInt ∧ v_size.toInt ≤ 14) → (∀ i, 0 ≤ (v_knots i).toInt ∧ (v_knots i).toInt ≤ 13) → (0 ≤ t_rest_left.toInt ∧ t_rest_left.toInt ≤ 16383) → (∀ i, 0 ≤ (lf i).toInt ∧ (lf i).toInt ≤ 16383) → (14 - x5.toInt ≤ g_39) → 13 - x6.toInt < (n : Int) → Sat (L_X6_bestOrder_51 a3 u_size u_near k_39 n x4 x5 x6 v_size v_held v_knots t_limit t_rest_left t_rest_newEnds t_rest_near t_stuck lf ne nr) (fun r => (0 ≤ (r.2.1).toInt ∧ (r.2.1).toInt ≤ 14) ∧ (∀ i, 0 ≤ ((r.2.2.2.1) i).toInt ∧ ((r.2.2.2.1) i).toInt ≤ 13) ∧ (0 ≤ (r.2.2.2.2.2.1).toInt ∧ (r.2.2.2.2.2.1).toInt ≤ 16383) ∧ (∀ i, 0 ≤ ((r.2.2.2.2.2.2.2.2.2.1) i).toInt ∧ ((r.2.2.2.2.2.2.2.2.2.1) i).toInt ≤ 16383) ∧ True) := by
  intro n
  induction n with
  | zero => intro x4 x5 x6 v_size v_held v_knots t_limit t_rest_left t_rest_newEnds t_rest_near t_stuck lf ne nr h_x4 h_x5 h_x6 h_v_size h_v_knots h_t_rest_left h_lf hg_39 hM; exfalso; omega
  | succ n ih =>
    intro x4 x5 x6 v_size v_held v_knots t_limit t_rest_left t_rest_newEnds t_rest_near t_stuck lf ne nr h_x4 h_x5 h_x6 h_v_size h_v_knots h_t_rest_left h_lf hg_39 hM
    rw [L_X6_bestOrder_51]
    have l13 : (13 : Int32).toInt = 13 := rfl
    have l0 : (0 : Int32).toInt = 0 := rfl
    have l1 : (1 : Int32).toInt = 1 := rfl
    refine sat_ite (fun hc1 => ?_) (fun hc1 => ?_)
    · have thc1 := ple hc1
      exact j_X6_bestOrder_78 a3 u_size u_near k_39 g_39 (by omega) (by omega) hk_39 x4 x5 x6 v_size v_held v_knots t_limit t_rest_left t_rest_newEnds t_rest_near t_stuck lf ne nr (by omega) (by omega) (by omega) (by omega) h_v_knots (by omega) h_lf (by omega)
    · have thc1 := nle hc1
      refine sat_cal (s_X6_fitsBehindR (f_X6_fits 16) x6 (0 : Int32) t_limit t_rest_left t_rest_newEnds t_rest_near t_stuck lf ne nr (by omega) (by omega) (by omega) h_lf rfl) fun u8 hu8 => ?_
      obtain ⟨hu8_0, hu8_2, -⟩ := hu8
      refine sat_ite (fun hc2 => ?_) (fun hc2 => ?_)
      · have thc2 := congrArg Int32.toInt hc2
        refine sat_bnd fun x6_9 e3 => ?_
        try (have k4 : (x6 + (1 : Int32)).toInt = x6.toInt + (1 : Int32).toInt := ti_add (by omega) (by omega))
        have te3 := congrArg Int32.toInt e3
        exact ih x4 x5 x6_9 v_size v_held v_knots t_limit t_rest_left t_rest_newEnds t_rest_near u8.2.1 u8.2.2.1 u8.2.2.2.1 u8.2.2.2.2 (by omega) (by omega) (by omega) (by omega) h_v_knots (by omega) hu8_2 (by omega) (by omega)
      · have thc2 := neq hc2
        exact j_X6_bestOrder_78 a3 u_size u_near k_39 g_39 (by omega) (by omega) hk_39 x4 x5 x6 v_size v_held v_knots t_limit t_rest_left t_rest_newEnds t_rest_near u8.2.1 u8.2.2.1 u8.2.2.2.1 u8.2.2.2.2 (by omega) (by omega) (by omega) (by omega) h_v_knots (by omega) hu8_2 (by omega)
theorem l_X6_bestOrder_39 (a3 : Int32) (u_size : Int32) (u_near : Nat → Int32) (h_a3 : -1 ≤ a3.toInt ∧ a3.toInt ≤ 63) (h_u_size : 0 ≤ u_size.toInt ∧ u_size.toInt ≤ 14) : ∀ (n : Nat) (x4 : Int32) (x5 : Int32) (v_size : Int32) (v_held : Int32) (v_knots : Nat → Int32) (t_limit : Int32) (t_rest_left : Int32) (t_rest_newEnds : Int32) (t_rest_near : Nat → Int32) (t_stuck : Nat → Int64) (lf : Nat → Int32) (ne : Nat → Int32) (nr : Nat → Nat → Int32), (-1 ≤ x4.toInt ∧ x4.toInt ≤ 63) → (0 ≤ x5.toInt ∧ x5.toInt ≤ 14) → (0 ≤ v_size.toInt ∧ v_size.toInt ≤ 14) → (∀ i, 0 ≤ (v_knots i).toInt ∧ (v_knots i).toInt ≤ 13) → (0 ≤ t_rest_left.toInt ∧ t_rest_left.toInt ≤ 16383) → (∀ i, 0 ≤ (lf i).toInt ∧ (lf i).toInt ≤ 16383) → 14 - x5.toInt < (n : Int) → Sat (L_X6_bestOrder_39 a3 u_size u_near n x4 x5 v_size v_held v_knots t_limit t_rest_left t_rest_newEnds t_rest_near t_stuck lf ne nr) (fun r => (0 ≤ (r.2.1).toInt ∧ (r.2.1).toInt ≤ 14) ∧ (∀ i, 0 ≤ ((r.2.2.2.1) i).toInt ∧ ((r.2.2.2.1) i).toInt ≤ 13) ∧ (0 ≤ (r.2.2.2.2.2.1).toInt ∧ (r.2.2.2.2.2.1).toInt ≤ 16383) ∧ (∀ i, 0 ≤ ((r.2.2.2.2.2.2.2.2.2.1) i).toInt ∧ ((r.2.2.2.2.2.2.2.2.2.1) i).toInt ≤ 16383) ∧ True) := by
  intro n
  induction n with
  | zero => intro x4 x5 v_size v_held v_knots t_limit t_rest_left t_rest_newEnds t_rest_near t_stuck lf ne nr h_x4 h_x5 h_v_size h_v_knots h_t_rest_left h_lf hM; exfalso; omega
  | succ n ih =>
    intro x4 x5 v_size v_held v_knots t_limit t_rest_left t_rest_newEnds t_rest_near t_stuck lf ne nr h_x4 h_x5 h_v_size h_v_knots h_t_rest_left h_lf hM
    rw [L_X6_bestOrder_39]
    have l0 : (0 : Int32).toInt = 0 := rfl
    refine sat_ite (fun hc1 => ?_) (fun hc1 => ?_)
    · have thc1 := ple hc1
      exact sat_some ⟨(by (try dsimp only); omega), h_v_knots, (by (try dsimp only); omega), h_lf, trivial⟩
    · have thc1 := nle hc1
      refine sat_bnd fun x6_4 e2 => ?_
      have te2 := congrArg Int32.toInt e2
      have hNN := NN_i
      exact l_X6_bestOrder_51 a3 u_size u_near (fun y0 y1 y2 y3 y4 y5 y6 y7 y8 y9 y10 y11 y12 => L_X6_bestOrder_39 a3 u_size u_near n y0 y1 y2 y3 y4 y5 y6 y7 y8 y9 y10 y11 y12) (n : Int) (by omega) (by omega) (fun y0 y1 y2 y3 y4 y5 y6 y7 y8 y9 y10 y11 y12 z0 z1 z2 z3 z4 z5 zm => ih y0 y1 y2 y3 y4 y5 y6 y7 y8 y9 y10 y11 y12 z0 z1 z2 z3 z4 z5 zm) NN x4 x5 x6_4 v_size v_held v_knots t_limit t_rest_left t_rest_newEnds t_rest_near t_stuck lf ne nr (by omega) (by omega) (by omega) (by omega) h_v_knots (by omega) h_lf (by omega) (by omega)
theorem l_X6_bestOrder_3 (a3 : Int32) (u_size : Int32) (u_near : Nat → Int32) (h_a3 : -1 ≤ a3.toInt ∧ a3.toInt ≤ 63) (h_u_size : 0 ≤ u_size.toInt ∧ u_size.toInt ≤ 14) : ∀ (n : Nat) (x4 : Int32) (v_size : Int32) (v_held : Int32) (v_knots : Nat → Int32) (t_limit : Int32) (t_rest_left : Int32) (t_rest_newEnds : Int32) (t_rest_near : Nat → Int32) (t_stuck : Nat → Int64) (lf : Nat → Int32) (ne : Nat → Int32) (nr : Nat → Nat → Int32), (-1 ≤ x4.toInt ∧ x4.toInt ≤ 63) → (0 ≤ v_size.toInt ∧ v_size.toInt ≤ 14) → (∀ i, 0 ≤ (v_knots i).toInt ∧ (v_knots i).toInt ≤ 13) → (0 ≤ t_rest_left.toInt ∧ t_rest_left.toInt ≤ 16383) → (∀ i, 0 ≤ (lf i).toInt ∧ (lf i).toInt ≤ 16383) → 64 - x4.toInt < (n : Int) → Sat (L_X6_bestOrder_3 a3 u_size u_near n x4 v_size v_held v_knots t_limit t_rest_left t_rest_newEnds t_rest_near t_stuck lf ne nr) (fun r => (0 ≤ (r.2.1).toInt ∧ (r.2.1).toInt ≤ 14) ∧ (∀ i, 0 ≤ ((r.2.2.2.1) i).toInt ∧ ((r.2.2.2.1) i).toInt ≤ 13) ∧ (0 ≤ (r.2.2.2.2.2.1).toInt ∧ (r.2.2.2.2.2.1).toInt ≤ 16383) ∧ (∀ i, 0 ≤ ((r.2.2.2.2.2.2.2.2.2.1) i).toInt ∧ ((r.2.2.2.2.2.2.2.2.2.1) i).toInt ≤ 16383) ∧ True) := by
  intro n
  induction n with
  | zero => intro x4 v_size v_held v_knots t_limit t_rest_left t_rest_newEnds t_rest_near t_stuck lf ne nr h_x4 h_v_size h_v_knots h_t_rest_left h_lf hM; exfalso; omega
  | succ n ih =>
    intro x4 v_size v_held v_knots t_limit t_rest_left t_rest_newEnds t_rest_near t_stuck lf ne nr h_x4 h_v_size h_v_knots h_t_rest_left h_lf hM
    rw [L_X6_bestOrder_3]
    have l0 : (0 : Int32).toInt = 0 := rfl
    have l1 : (1 : Int32).toInt = 1 := rfl
    refine sat_ite (fun hc1 => ?_) (fun hc1 => ?_)
    · have thc1 := ple hc1
      refine sat_cal (s_X1_start t_rest_left t_rest_newEnds t_rest_near u_size u_near (by omega) (by omega)) fun u2 hu2 => ?_
      obtain ⟨hu2_0, -⟩ := hu2
      refine sat_bnd fun x5_3 e2 => ?_
      have te2 := congrArg Int32.toInt e2
      have hNN := NN_i
      exact l_X6_bestOrder_39 a3 u_size u_near (by omega) (by omega) NN x4 x5_3 v_size v_held v_knots t_limit u2.1 u2.2.1 u2.2.2 t_stuck lf ne nr (by omega) (by omega) (by omega) h_v_knots (by omega) h_lf (by omega)
    · have thc1 := nle hc1
      refine sat_cal (s_X6_netFits x4 u_size u_near t_limit t_stuck lf ne nr (by omega) h_lf) fun u10 hu10 => ?_
      obtain ⟨hu10_0, hu10_3, -⟩ := hu10
      refine sat_ite (fun hc3 => ?_) (fun hc3 => ?_)
      · have thc3 := congrArg Int32.toInt hc3
        refine sat_bnd fun x4_13 e4 => ?_
        try (have k5 : (x4 + (1 : Int32)).toInt = x4.toInt + (1 : Int32).toInt := ti_add (by omega) (by omega))
        have te4 := congrArg Int32.toInt e4
        exact ih x4_13 v_size v_held v_knots u10.2.1 t_rest_left t_rest_newEnds t_rest_near u10.2.2.1 u10.2.2.2.1 u10.2.2.2.2.1 u10.2.2.2.2.2 (by omega) (by omega) h_v_knots (by omega) hu10_3 (by omega)
      · have thc3 := neq hc3
        refine sat_cal (s_X1_start t_rest_left t_rest_newEnds t_rest_near u_size u_near (by omega) (by omega)) fun u11 hu11 => ?_
        obtain ⟨hu11_0, -⟩ := hu11
        refine sat_bnd fun x5_12 e6 => ?_
        have te6 := congrArg Int32.toInt e6
        have hNN := NN_i
        exact l_X6_bestOrder_39 a3 u_size u_near (by omega) (by omega) NN x4 x5_12 v_size v_held v_knots u10.2.1 u11.1 u11.2.1 u11.2.2 u10.2.2.1 u10.2.2.2.1 u10.2.2.2.2.1 u10.2.2.2.2.2 (by omega) (by omega) (by omega) h_v_knots (by omega) hu10_3 (by omega)
theorem s_X6_bestOrder (a3 : Int32) (v_size : Int32) (v_held : Int32) (v_knots : Nat → Int32) (u_size : Int32) (u_near : Nat → Int32) (t_limit : Int32) (t_rest_left : Int32) (t_rest_newEnds : Int32) (t_rest_near : Nat → Int32) (t_stuck : Nat → Int64) (lf : Nat → Int32) (ne : Nat → Int32) (nr : Nat → Nat → Int32) (h_a3 : -1 ≤ a3.toInt ∧ a3.toInt ≤ 63) (h_v_size : 0 ≤ v_size.toInt ∧ v_size.toInt ≤ 14) (h_v_knots : ∀ i, 0 ≤ (v_knots i).toInt ∧ (v_knots i).toInt ≤ 13) (h_u_size : 0 ≤ u_size.toInt ∧ u_size.toInt ≤ 14) (h_t_rest_left : 0 ≤ t_rest_left.toInt ∧ t_rest_left.toInt ≤ 16383) (h_lf : ∀ i, 0 ≤ (lf i).toInt ∧ (lf i).toInt ≤ 16383) : Sat (f_X6_bestOrder a3 v_size v_held v_knots u_size u_near t_limit t_rest_left t_rest_newEnds t_rest_near t_stuck lf ne nr) (fun r => (0 ≤ (r.2.1).toInt ∧ (r.2.1).toInt ≤ 14) ∧ (∀ i, 0 ≤ ((r.2.2.2.1) i).toInt ∧ ((r.2.2.2.1) i).toInt ≤ 13) ∧ (0 ≤ (r.2.2.2.2.2.1).toInt ∧ (r.2.2.2.2.2.1).toInt ≤ 16383) ∧ (∀ i, 0 ≤ ((r.2.2.2.2.2.2.2.2.2.1) i).toInt ∧ ((r.2.2.2.2.2.2.2.2.2.1) i).toInt ≤ 16383) ∧ True) := by
  unfold f_X6_bestOrder
  refine sat_bnd fun x4_1 e1 => ?_
  have te1 := congrArg Int32.toInt e1
  have hNN := NN_i
  exact l_X6_bestOrder_3 a3 u_size u_near (by omega) (by omega) NN x4_1 v_size v_held v_knots t_limit t_rest_left t_rest_newEnds t_rest_near t_stuck lf ne nr (by omega) (by omega) h_v_knots (by omega) h_lf (by omega)
theorem j_X8_least_18  : ∀ (t_net_size : Int32) (t_net_near : Nat → Int32) (t_going_left : Int32) (t_going_newEnds : Int32) (t_going_near : Nat → Int32) (t_order_size : Int32) (t_order_held : Int32) (t_order_knots : Nat → Int32) (t_search_limit : Int32) (t_search_rest_left : Int32) (t_search_rest_newEnds : Int32) (t_search_rest_near : Nat → Int32) (t_search_stuck : Nat → Int64) (lf : Nat → Int32) (ne : Nat → Int32) (nr : Nat → Nat → Int32), (0 ≤ t_net_size.toInt ∧ t_net_size.toInt ≤ 14) → (0 ≤ t_going_left.toInt ∧ t_going_left.toInt ≤ 16383) → (0 ≤ t_order_size.toInt ∧ t_order_size.toInt ≤ 14) → (∀ i, 0 ≤ (t_order_knots i).toInt ∧ (t_order_knots i).toInt ≤ 13) → (0 ≤ t_search_rest_left.toInt ∧ t_search_rest_left.toInt ≤ 16383) → (∀ i, 0 ≤ (lf i).toInt ∧ (lf i).toInt ≤ 16383) → Sat (J_X8_least_18 t_net_size t_net_near t_going_left t_going_newEnds t_going_near t_order_size t_order_held t_order_knots t_search_limit t_search_rest_left t_search_rest_newEnds t_search_rest_near t_search_stuck lf ne nr) (fun r => (0 ≤ (r.2.1).toInt ∧ (r.2.1).toInt ≤ 16383) ∧ (0 ≤ (r.2.2.2.2.1).toInt ∧ (r.2.2.2.2.1).toInt ≤ 14) ∧ (∀ i, 0 ≤ ((r.2.2.2.2.2.2.1) i).toInt ∧ ((r.2.2.2.2.2.2.1) i).toInt ≤ 13) ∧ (0 ≤ (r.2.2.2.2.2.2.2.2.1).toInt ∧ (r.2.2.2.2.2.2.2.2.1).toInt ≤ 16383) ∧ (∀ i, 0 ≤ ((r.2.2.2.2.2.2.2.2.2.2.2.2.1) i).toInt ∧ ((r.2.2.2.2.2.2.2.2.2.2.2.2.1) i).toInt ≤ 16383) ∧ True) := by
  intro t_net_size t_net_near t_going_left t_going_newEnds t_going_near t_order_size t_order_held t_order_knots t_search_limit t_search_rest_left t_search_rest_newEnds t_search_rest_near t_search_stuck lf ne nr h_t_net_size h_t_going_left h_t_order_size h_t_order_knots h_t_search_rest_left h_lf
  unfold J_X8_least_18
  refine sat_cal (s_X2_empty t_order_size t_order_held (by omega)) fun u1 hu1 => ?_
  obtain ⟨hu1_0, -⟩ := hu1
  refine sat_cal (s_X8_lowerBound t_net_size t_net_near t_going_left t_going_newEnds t_going_near (by omega) (by omega)) fun u2 hu2 => ?_
  obtain ⟨hu2_0, hu2_1, -⟩ := hu2
  refine sat_cal (s_X6_bestOrder u2.1 u1.1 u1.2 t_order_knots t_net_size t_net_near t_search_limit t_search_rest_left t_search_rest_newEnds t_search_rest_near t_search_stuck lf ne nr (by omega) (by omega) h_t_order_knots (by omega) (by omega) h_lf) fun u3 hu3 => ?_
  obtain ⟨hu3_1, hu3_3, hu3_5, hu3_9, -⟩ := hu3
  exact sat_some ⟨(by (try dsimp only); omega), (by (try dsimp only); omega), hu3_3, (by (try dsimp only); omega), hu3_9, trivial⟩
theorem s_X8_least (t_going_left : Int32) (t_going_newEnds : Int32) (t_going_near : Nat → Int32) (t_order_size : Int32) (t_order_held : Int32) (t_order_knots : Nat → Int32) (t_net_size : Int32) (t_net_near : Nat → Int32) (t_search_limit : Int32) (t_search_rest_left : Int32) (t_search_rest_newEnds : Int32) (t_search_rest_near : Nat → Int32) (t_search_stuck : Nat → Int64) (lf : Nat → Int32) (ne : Nat → Int32) (nr : Nat → Nat → Int32) (h_t_going_left : 0 ≤ t_going_left.toInt ∧ t_going_left.toInt ≤ 16383) (h_t_order_size : 0 ≤ t_order_size.toInt ∧ t_order_size.toInt ≤ 14) (h_t_order_knots : ∀ i, 0 ≤ (t_order_knots i).toInt ∧ (t_order_knots i).toInt ≤ 13) (h_t_net_size : 0 ≤ t_net_size.toInt ∧ t_net_size.toInt ≤ 14) (h_t_search_rest_left : 0 ≤ t_search_rest_left.toInt ∧ t_search_rest_left.toInt ≤ 16383) (h_lf : ∀ i, 0 ≤ (lf i).toInt ∧ (lf i).toInt ≤ 16383) : Sat (f_X8_least t_going_left t_going_newEnds t_going_near t_order_size t_order_held t_order_knots t_net_size t_net_near t_search_limit t_search_rest_left t_search_rest_newEnds t_search_rest_near t_search_stuck lf ne nr) (fun r => (0 ≤ (r.2.1).toInt ∧ (r.2.1).toInt ≤ 16383) ∧ (0 ≤ (r.2.2.2.2.1).toInt ∧ (r.2.2.2.2.1).toInt ≤ 14) ∧ (∀ i, 0 ≤ ((r.2.2.2.2.2.2.1) i).toInt ∧ ((r.2.2.2.2.2.2.1) i).toInt ≤ 13) ∧ (0 ≤ (r.2.2.2.2.2.2.2.2.1).toInt ∧ (r.2.2.2.2.2.2.2.2.1).toInt ≤ 16383) ∧ (∀ i, 0 ≤ ((r.2.2.2.2.2.2.2.2.2.2.2.2.1) i).toInt ∧ ((r.2.2.2.2.2.2.2.2.2.2.2.2.1) i).toInt ≤ 16383) ∧ True) := by
  unfold f_X8_least
  exact j_X8_least_18 t_net_size t_net_near t_going_left t_going_newEnds t_going_near t_order_size t_order_held t_order_knots t_search_limit t_search_rest_left t_search_rest_newEnds t_search_rest_near t_search_stuck lf ne nr (by omega) (by omega) (by omega) h_t_order_knots (by omega) h_lf
theorem j_X8_freshTally_30  : ∀ (t_net_size : Int32) (t_net_near : Nat → Int32) (t_bags_size : Int32) (t_bags_masks : Nat → Int32) (t_law_size : Int32) (t_law_forbidden : Nat → Int32) (t_plan_size : Int32) (t_plan_knots : Nat → Int32) (t_plan_others : Nat → Int32) (t_plan_otherCount : Nat → Int32) (t_plan_scopes : Nat → Int32) (t_plan_users : Nat → Int32) (t_plan_feeders : Nat → Int32) (t_plan_feederCount : Nat → Int32) (t_plan_places : Nat → Int32) (t_plan_bagMates : Nat → Int32) (t_plan_going_left : Int32) (t_plan_going_newEnds : Int32) (t_plan_going_near : Nat → Int32) (t_tally_open : Nat → Int32), (0 ≤ t_net_size.toInt ∧ t_net_size.toInt ≤ 14) → (0 ≤ t_bags_size.toInt ∧ t_bags_size.toInt ≤ 14) → (1 ≤ t_law_size.toInt ∧ t_law_size.toInt ≤ 4) → (0 ≤ t_plan_size.toInt ∧ t_plan_size.toInt ≤ 14) → (∀ i, 0 ≤ (t_plan_knots i).toInt ∧ (t_plan_knots i).toInt ≤ 13) → (∀ i, 0 ≤ (t_plan_others i).toInt ∧ (t_plan_others i).toInt ≤ 13) → (∀ i, 0 ≤ (t_plan_otherCount i).toInt ∧ (t_plan_otherCount i).toInt ≤ 4) → (∀ i, 0 ≤ (t_plan_feeders i).toInt ∧ (t_plan_feeders i).toInt ≤ 13) → (∀ i, 0 ≤ (t_plan_feederCount i).toInt ∧ (t_plan_feederCount i).toInt ≤ 14) → (∀ i, 0 ≤ (t_plan_places i).toInt ∧ ((t_plan_places i).toInt = 0 ∨ (t_plan_places i).toInt < t_net_size.toInt)) → (0 ≤ t_plan_going_left.toInt ∧ t_plan_going_left.toInt ≤ 16383) → Sat (J_X8_freshTally_30 t_net_size t_net_near t_bags_size t_bags_masks t_law_size t_law_forbidden t_plan_size t_plan_knots t_plan_others t_plan_otherCount t_plan_scopes t_plan_users t_plan_feeders t_plan_feederCount t_plan_places t_plan_bagMates t_plan_going_left t_plan_going_newEnds t_plan_going_near t_tally_open) (fun r => (0 ≤ (r.1).toInt ∧ (r.1).toInt ≤ 14) ∧ (∀ i, 0 ≤ ((r.2.1) i).toInt ∧ ((r.2.1) i).toInt ≤ 13) ∧ (∀ i, 0 ≤ ((r.2.2.1) i).toInt ∧ ((r.2.2.1) i).toInt ≤ 13) ∧ (∀ i, 0 ≤ ((r.2.2.2.1) i).toInt ∧ ((r.2.2.2.1) i).toInt ≤ 4) ∧ (∀ i, 0 ≤ ((r.2.2.2.2.2.2.1) i).toInt ∧ ((r.2.2.2.2.2.2.1) i).toInt ≤ 13) ∧ (∀ i, 0 ≤ ((r.2.2.2.2.2.2.2.1) i).toInt ∧ ((r.2.2.2.2.2.2.2.1) i).toInt ≤ 14) ∧ (∀ i, 0 ≤ ((r.2.2.2.2.2.2.2.2.1) i).toInt ∧ (((r.2.2.2.2.2.2.2.2.1) i).toInt = 0 ∨ ((r.2.2.2.2.2.2.2.2.1) i).toInt < t_net_size.toInt)) ∧ (0 ≤ (r.2.2.2.2.2.2.2.2.2.2.1).toInt ∧ (r.2.2.2.2.2.2.2.2.2.2.1).toInt ≤ 16383) ∧ True) := by
  intro t_net_size t_net_near t_bags_size t_bags_masks t_law_size t_law_forbidden t_plan_size t_plan_knots t_plan_others t_plan_otherCount t_plan_scopes t_plan_users t_plan_feeders t_plan_feederCount t_plan_places t_plan_bagMates t_plan_going_left t_plan_going_newEnds t_plan_going_near t_tally_open h_t_net_size h_t_bags_size h_t_law_size h_t_plan_size h_t_plan_knots h_t_plan_others h_t_plan_otherCount h_t_plan_feeders h_t_plan_feederCount h_t_plan_places h_t_plan_going_left
  unfold J_X8_freshTally_30
  refine sat_cal (s_X5_lay t_plan_size t_plan_knots t_plan_others t_plan_otherCount t_plan_scopes t_plan_users t_plan_feeders t_plan_feederCount t_plan_places t_plan_bagMates t_plan_going_left t_plan_going_newEnds t_plan_going_near t_net_size t_net_near t_bags_size t_bags_masks (by omega) h_t_plan_knots h_t_plan_others h_t_plan_otherCount h_t_plan_feeders h_t_plan_feederCount (fun i => by have q0 := h_t_plan_places i; (try dsimp only); omega) (by omega) (by omega) (by omega)) fun u1 hu1 => ?_
  obtain ⟨hu1_0, hu1_1, hu1_2, hu1_3, hu1_6, hu1_7, hu1_8, hu1_10, -⟩ := hu1
  refine sat_cal (s_X7_openAll t_tally_open t_net_size t_law_size t_law_forbidden (by omega) (by omega)) fun u2 hu2 => ?_
  exact sat_some ⟨(by (try dsimp only); omega), hu1_1, hu1_2, hu1_3, hu1_6, hu1_7, (fun i => by have q0 := hu1_8 i; (try dsimp only); omega), (by (try dsimp only); omega), trivial⟩
theorem s_X8_freshTally (t_net_size : Int32) (t_net_near : Nat → Int32) (t_bags_size : Int32) (t_bags_masks : Nat → Int32) (t_law_size : Int32) (t_law_forbidden : Nat → Int32) (t_plan_size : Int32) (t_plan_knots : Nat → Int32) (t_plan_others : Nat → Int32) (t_plan_otherCount : Nat → Int32) (t_plan_scopes : Nat → Int32) (t_plan_users : Nat → Int32) (t_plan_feeders : Nat → Int32) (t_plan_feederCount : Nat → Int32) (t_plan_places : Nat → Int32) (t_plan_bagMates : Nat → Int32) (t_plan_going_left : Int32) (t_plan_going_newEnds : Int32) (t_plan_going_near : Nat → Int32) (t_tally_open : Nat → Int32) (h_t_net_size : 0 ≤ t_net_size.toInt ∧ t_net_size.toInt ≤ 14) (h_t_bags_size : 0 ≤ t_bags_size.toInt ∧ t_bags_size.toInt ≤ 14) (h_t_law_size : 1 ≤ t_law_size.toInt ∧ t_law_size.toInt ≤ 4) (h_t_plan_size : 0 ≤ t_plan_size.toInt ∧ t_plan_size.toInt ≤ 14) (h_t_plan_knots : ∀ i, 0 ≤ (t_plan_knots i).toInt ∧ (t_plan_knots i).toInt ≤ 13) (h_t_plan_others : ∀ i, 0 ≤ (t_plan_others i).toInt ∧ (t_plan_others i).toInt ≤ 13) (h_t_plan_otherCount : ∀ i, 0 ≤ (t_plan_otherCount i).toInt ∧ (t_plan_otherCount i).toInt ≤ 4) (h_t_plan_feeders : ∀ i, 0 ≤ (t_plan_feeders i).toInt ∧ (t_plan_feeders i).toInt ≤ 13) (h_t_plan_feederCount : ∀ i, 0 ≤ (t_plan_feederCount i).toInt ∧ (t_plan_feederCount i).toInt ≤ 14) (h_t_plan_places : ∀ i, 0 ≤ (t_plan_places i).toInt ∧ ((t_plan_places i).toInt = 0 ∨ (t_plan_places i).toInt < t_net_size.toInt)) (h_t_plan_going_left : 0 ≤ t_plan_going_left.toInt ∧ t_plan_going_left.toInt ≤ 16383) : Sat (f_X8_freshTally t_net_size t_net_near t_bags_size t_bags_masks t_law_size t_law_forbidden t_plan_size t_plan_knots t_plan_others t_plan_otherCount t_plan_scopes t_plan_users t_plan_feeders t_plan_feederCount t_plan_places t_plan_bagMates t_plan_going_left t_plan_going_newEnds t_plan_going_near t_tally_open) (fun r => (0 ≤ (r.1).toInt ∧ (r.1).toInt ≤ 14) ∧ (∀ i, 0 ≤ ((r.2.1) i).toInt ∧ ((r.2.1) i).toInt ≤ 13) ∧ (∀ i, 0 ≤ ((r.2.2.1) i).toInt ∧ ((r.2.2.1) i).toInt ≤ 13) ∧ (∀ i, 0 ≤ ((r.2.2.2.1) i).toInt ∧ ((r.2.2.2.1) i).toInt ≤ 4) ∧ (∀ i, 0 ≤ ((r.2.2.2.2.2.2.1) i).toInt ∧ ((r.2.2.2.2.2.2.1) i).toInt ≤ 13) ∧ (∀ i, 0 ≤ ((r.2.2.2.2.2.2.2.1) i).toInt ∧ ((r.2.2.2.2.2.2.2.1) i).toInt ≤ 14) ∧ (∀ i, 0 ≤ ((r.2.2.2.2.2.2.2.2.1) i).toInt ∧ (((r.2.2.2.2.2.2.2.2.1) i).toInt = 0 ∨ ((r.2.2.2.2.2.2.2.2.1) i).toInt < t_net_size.toInt)) ∧ (0 ≤ (r.2.2.2.2.2.2.2.2.2.2.1).toInt ∧ (r.2.2.2.2.2.2.2.2.2.2.1).toInt ≤ 16383) ∧ True) := by
  unfold f_X8_freshTally
  exact j_X8_freshTally_30 t_net_size t_net_near t_bags_size t_bags_masks t_law_size t_law_forbidden t_plan_size t_plan_knots t_plan_others t_plan_otherCount t_plan_scopes t_plan_users t_plan_feeders t_plan_feederCount t_plan_places t_plan_bagMates t_plan_going_left t_plan_going_newEnds t_plan_going_near t_tally_open (by omega) (by omega) (by omega) (by omega) h_t_plan_knots h_t_plan_others h_t_plan_otherCount h_t_plan_feeders h_t_plan_feederCount (fun i => by have q0 := h_t_plan_places i; (try dsimp only); omega) (by omega)
theorem j_X8_ways_15  : ∀ (t_net_size : Int32) (t_net_loads : Nat → Int32) (t_net_near : Nat → Int32) (t_net_ties : Nat → Int32) (t_bags_size : Int32) (t_bags_masks : Nat → Int32) (t_bags_ups : Nat → Int32) (t_law_size : Int32) (t_law_factors : Nat → Int32) (t_law_pairFactors : Nat → Int32) (t_law_barred : Nat → Int32) (t_law_forbidden : Nat → Int32) (t_plan_size : Int32) (t_plan_knots : Nat → Int32) (t_plan_others : Nat → Int32) (t_plan_otherCount : Nat → Int32) (t_plan_scopes : Nat → Int32) (t_plan_users : Nat → Int32) (t_plan_feeders : Nat → Int32) (t_plan_feederCount : Nat → Int32) (t_plan_places : Nat → Int32) (t_plan_bagMates : Nat → Int32) (t_plan_going_left : Int32) (t_plan_going_newEnds : Int32) (t_plan_going_near : Nat → Int32) (t_tally_sum : Int32) (t_tally_many : Int32) (t_tally_sign : Int32) (t_tally_changed : Int32) (t_tally_pickedSum : Int32) (t_tally_open : Nat → Int32) (t_tally_openStates : Nat → Int32) (t_tally_openCount : Nat → Int32) (t_tally_picks : Nat → Int32) (t_tally_strides : Nat → Int32) (t_tally_sums : Nat → Int32) (t_tally_counts : Nat → Int32), (0 ≤ t_net_size.toInt ∧ t_net_size.toInt ≤ 14) → (0 ≤ t_bags_size.toInt ∧ t_bags_size.toInt ≤ 14) → (1 ≤ t_law_size.toInt ∧ t_law_size.toInt ≤ 4) → (0 ≤ t_plan_size.toInt ∧ t_plan_size.toInt ≤ 14) → (∀ i, 0 ≤ (t_plan_knots i).toInt ∧ (t_plan_knots i).toInt ≤ 13) → (∀ i, 0 ≤ (t_plan_others i).toInt ∧ (t_plan_others i).toInt ≤ 13) → (∀ i, 0 ≤ (t_plan_otherCount i).toInt ∧ (t_plan_otherCount i).toInt ≤ 4) → (∀ i, 0 ≤ (t_plan_feeders i).toInt ∧ (t_plan_feeders i).toInt ≤ 13) → (∀ i, 0 ≤ (t_plan_feederCount i).toInt ∧ (t_plan_feederCount i).toInt ≤ 14) → (∀ i, 0 ≤ (t_plan_places i).toInt ∧ ((t_plan_places i).toInt = 0 ∨ (t_plan_places i).toInt < t_net_size.toInt)) → (0 ≤ t_plan_going_left.toInt ∧ t_plan_going_left.toInt ≤ 16383) → (∀ i, 0 ≤ (t_tally_openStates i).toInt ∧ (t_tally_openStates i).toInt ≤ 3) → (∀ i, 0 ≤ (t_tally_openCount i).toInt ∧ (t_tally_openCount i).toInt ≤ 4) → (∀ i, 0 ≤ (t_tally_picks i).toInt ∧ (t_tally_picks i).toInt ≤ 3) → (ST t_tally_strides) → Sat (J_X8_ways_15 t_net_size t_net_loads t_net_near t_net_ties t_bags_size t_bags_masks t_bags_ups t_law_size t_law_factors t_law_pairFactors t_law_barred t_law_forbidden t_plan_size t_plan_knots t_plan_others t_plan_otherCount t_plan_scopes t_plan_users t_plan_feeders t_plan_feederCount t_plan_places t_plan_bagMates t_plan_going_left t_plan_going_newEnds t_plan_going_near t_tally_sum t_tally_many t_tally_sign t_tally_changed t_tally_pickedSum t_tally_open t_tally_openStates t_tally_openCount t_tally_picks t_tally_strides t_tally_sums t_tally_counts) (fun r => (0 ≤ (r.2.1).toInt ∧ (r.2.1).toInt ≤ 14) ∧ (∀ i, 0 ≤ ((r.2.2.1) i).toInt ∧ ((r.2.2.1) i).toInt ≤ 13) ∧ (∀ i, 0 ≤ ((r.2.2.2.1) i).toInt ∧ ((r.2.2.2.1) i).toInt ≤ 13) ∧ (∀ i, 0 ≤ ((r.2.2.2.2.1) i).toInt ∧ ((r.2.2.2.2.1) i).toInt ≤ 4) ∧ (∀ i, 0 ≤ ((r.2.2.2.2.2.2.2.1) i).toInt ∧ ((r.2.2.2.2.2.2.2.1) i).toInt ≤ 13) ∧ (∀ i, 0 ≤ ((r.2.2.2.2.2.2.2.2.1) i).toInt ∧ ((r.2.2.2.2.2.2.2.2.1) i).toInt ≤ 14) ∧ (∀ i, 0 ≤ ((r.2.2.2.2.2.2.2.2.2.1) i).toInt ∧ (((r.2.2.2.2.2.2.2.2.2.1) i).toInt = 0 ∨ ((r.2.2.2.2.2.2.2.2.2.1) i).toInt < t_net_size.toInt)) ∧ (0 ≤ (r.2.2.2.2.2.2.2.2.2.2.2.1).toInt ∧ (r.2.2.2.2.2.2.2.2.2.2.2.1).toInt ≤ 16383) ∧ (∀ i, 0 ≤ ((r.2.2.2.2.2.2.2.2.2.2.2.2.2.2.2.2.2.2.2.2.1) i).toInt ∧ ((r.2.2.2.2.2.2.2.2.2.2.2.2.2.2.2.2.2.2.2.2.1) i).toInt ≤ 3) ∧ (∀ i, 0 ≤ ((r.2.2.2.2.2.2.2.2.2.2.2.2.2.2.2.2.2.2.2.2.2.1) i).toInt ∧ ((r.2.2.2.2.2.2.2.2.2.2.2.2.2.2.2.2.2.2.2.2.2.1) i).toInt ≤ 4) ∧ (∀ i, 0 ≤ ((r.2.2.2.2.2.2.2.2.2.2.2.2.2.2.2.2.2.2.2.2.2.2.1) i).toInt ∧ ((r.2.2.2.2.2.2.2.2.2.2.2.2.2.2.2.2.2.2.2.2.2.2.1) i).toInt ≤ 3) ∧ (ST (r.2.2.2.2.2.2.2.2.2.2.2.2.2.2.2.2.2.2.2.2.2.2.2.1)) ∧ True) := by
  intro t_net_size t_net_loads t_net_near t_net_ties t_bags_size t_bags_masks t_bags_ups t_law_size t_law_factors t_law_pairFactors t_law_barred t_law_forbidden t_plan_size t_plan_knots t_plan_others t_plan_otherCount t_plan_scopes t_plan_users t_plan_feeders t_plan_feederCount t_plan_places t_plan_bagMates t_plan_going_left t_plan_going_newEnds t_plan_going_near t_tally_sum t_tally_many t_tally_sign t_tally_changed t_tally_pickedSum t_tally_open t_tally_openStates t_tally_openCount t_tally_picks t_tally_strides t_tally_sums t_tally_counts h_t_net_size h_t_bags_size h_t_law_size h_t_plan_size h_t_plan_knots h_t_plan_others h_t_plan_otherCount h_t_plan_feeders h_t_plan_feederCount h_t_plan_places h_t_plan_going_left h_t_tally_openStates h_t_tally_openCount h_t_tally_picks h_t_tally_strides
  unfold J_X8_ways_15
  refine sat_cal (s_X7_sweep (0 : Int32) t_tally_sum t_tally_many t_tally_sign t_tally_changed t_tally_pickedSum t_tally_open t_net_size t_net_loads t_net_near t_net_ties t_law_size t_law_factors t_law_pairFactors t_law_barred t_plan_size t_plan_knots t_plan_others t_plan_otherCount t_plan_scopes t_plan_users t_plan_feeders t_plan_feederCount t_tally_openStates t_tally_openCount t_tally_picks t_tally_strides t_tally_sums t_tally_counts (by omega) (by omega) (by omega) h_t_plan_knots h_t_plan_others h_t_plan_otherCount h_t_plan_feeders h_t_plan_feederCount h_t_tally_openStates h_t_tally_openCount h_t_tally_picks h_t_tally_strides) fun u3 hu3 => ?_
  obtain ⟨hu3_5, hu3_6, hu3_7, hu3_8, -⟩ := hu3
  exact sat_some ⟨(by (try dsimp only); omega), h_t_plan_knots, h_t_plan_others, h_t_plan_otherCount, h_t_plan_feeders, h_t_plan_feederCount, (fun i => by have q0 := h_t_plan_places i; (try dsimp only); omega), (by (try dsimp only); omega), hu3_5, hu3_6, hu3_7, hu3_8, trivial⟩
theorem s_X8_ways (t_net_size : Int32) (t_net_loads : Nat → Int32) (t_net_near : Nat → Int32) (t_net_ties : Nat → Int32) (t_bags_size : Int32) (t_bags_masks : Nat → Int32) (t_bags_ups : Nat → Int32) (t_law_size : Int32) (t_law_factors : Nat → Int32) (t_law_pairFactors : Nat → Int32) (t_law_barred : Nat → Int32) (t_law_forbidden : Nat → Int32) (t_plan_size : Int32) (t_plan_knots : Nat → Int32) (t_plan_others : Nat → Int32) (t_plan_otherCount : Nat → Int32) (t_plan_scopes : Nat → Int32) (t_plan_users : Nat → Int32) (t_plan_feeders : Nat → Int32) (t_plan_feederCount : Nat → Int32) (t_plan_places : Nat → Int32) (t_plan_bagMates : Nat → Int32) (t_plan_going_left : Int32) (t_plan_going_newEnds : Int32) (t_plan_going_near : Nat → Int32) (t_tally_sum : Int32) (t_tally_many : Int32) (t_tally_sign : Int32) (t_tally_changed : Int32) (t_tally_pickedSum : Int32) (t_tally_open : Nat → Int32) (t_tally_openStates : Nat → Int32) (t_tally_openCount : Nat → Int32) (t_tally_picks : Nat → Int32) (t_tally_strides : Nat → Int32) (t_tally_sums : Nat → Int32) (t_tally_counts : Nat → Int32) (h_t_net_size : 0 ≤ t_net_size.toInt ∧ t_net_size.toInt ≤ 14) (h_t_bags_size : 0 ≤ t_bags_size.toInt ∧ t_bags_size.toInt ≤ 14) (h_t_law_size : 1 ≤ t_law_size.toInt ∧ t_law_size.toInt ≤ 4) (h_t_plan_size : 0 ≤ t_plan_size.toInt ∧ t_plan_size.toInt ≤ 14) (h_t_plan_knots : ∀ i, 0 ≤ (t_plan_knots i).toInt ∧ (t_plan_knots i).toInt ≤ 13) (h_t_plan_others : ∀ i, 0 ≤ (t_plan_others i).toInt ∧ (t_plan_others i).toInt ≤ 13) (h_t_plan_otherCount : ∀ i, 0 ≤ (t_plan_otherCount i).toInt ∧ (t_plan_otherCount i).toInt ≤ 4) (h_t_plan_feeders : ∀ i, 0 ≤ (t_plan_feeders i).toInt ∧ (t_plan_feeders i).toInt ≤ 13) (h_t_plan_feederCount : ∀ i, 0 ≤ (t_plan_feederCount i).toInt ∧ (t_plan_feederCount i).toInt ≤ 14) (h_t_plan_places : ∀ i, 0 ≤ (t_plan_places i).toInt ∧ ((t_plan_places i).toInt = 0 ∨ (t_plan_places i).toInt < t_net_size.toInt)) (h_t_plan_going_left : 0 ≤ t_plan_going_left.toInt ∧ t_plan_going_left.toInt ≤ 16383) (h_t_tally_openStates : ∀ i, 0 ≤ (t_tally_openStates i).toInt ∧ (t_tally_openStates i).toInt ≤ 3) (h_t_tally_openCount : ∀ i, 0 ≤ (t_tally_openCount i).toInt ∧ (t_tally_openCount i).toInt ≤ 4) (h_t_tally_picks : ∀ i, 0 ≤ (t_tally_picks i).toInt ∧ (t_tally_picks i).toInt ≤ 3) (h_t_tally_strides : ST t_tally_strides) : Sat (f_X8_ways t_net_size t_net_loads t_net_near t_net_ties t_bags_size t_bags_masks t_bags_ups t_law_size t_law_factors t_law_pairFactors t_law_barred t_law_forbidden t_plan_size t_plan_knots t_plan_others t_plan_otherCount t_plan_scopes t_plan_users t_plan_feeders t_plan_feederCount t_plan_places t_plan_bagMates t_plan_going_left t_plan_going_newEnds t_plan_going_near t_tally_sum t_tally_many t_tally_sign t_tally_changed t_tally_pickedSum t_tally_open t_tally_openStates t_tally_openCount t_tally_picks t_tally_strides t_tally_sums t_tally_counts) (fun r => (0 ≤ (r.2.1).toInt ∧ (r.2.1).toInt ≤ 14) ∧ (∀ i, 0 ≤ ((r.2.2.1) i).toInt ∧ ((r.2.2.1) i).toInt ≤ 13) ∧ (∀ i, 0 ≤ ((r.2.2.2.1) i).toInt ∧ ((r.2.2.2.1) i).toInt ≤ 13) ∧ (∀ i, 0 ≤ ((r.2.2.2.2.1) i).toInt ∧ ((r.2.2.2.2.1) i).toInt ≤ 4) ∧ (∀ i, 0 ≤ ((r.2.2.2.2.2.2.2.1) i).toInt ∧ ((r.2.2.2.2.2.2.2.1) i).toInt ≤ 13) ∧ (∀ i, 0 ≤ ((r.2.2.2.2.2.2.2.2.1) i).toInt ∧ ((r.2.2.2.2.2.2.2.2.1) i).toInt ≤ 14) ∧ (∀ i, 0 ≤ ((r.2.2.2.2.2.2.2.2.2.1) i).toInt ∧ (((r.2.2.2.2.2.2.2.2.2.1) i).toInt = 0 ∨ ((r.2.2.2.2.2.2.2.2.2.1) i).toInt < t_net_size.toInt)) ∧ (0 ≤ (r.2.2.2.2.2.2.2.2.2.2.2.1).toInt ∧ (r.2.2.2.2.2.2.2.2.2.2.2.1).toInt ≤ 16383) ∧ (∀ i, 0 ≤ ((r.2.2.2.2.2.2.2.2.2.2.2.2.2.2.2.2.2.2.2.2.1) i).toInt ∧ ((r.2.2.2.2.2.2.2.2.2.2.2.2.2.2.2.2.2.2.2.2.1) i).toInt ≤ 3) ∧ (∀ i, 0 ≤ ((r.2.2.2.2.2.2.2.2.2.2.2.2.2.2.2.2.2.2.2.2.2.1) i).toInt ∧ ((r.2.2.2.2.2.2.2.2.2.2.2.2.2.2.2.2.2.2.2.2.2.1) i).toInt ≤ 4) ∧ (∀ i, 0 ≤ ((r.2.2.2.2.2.2.2.2.2.2.2.2.2.2.2.2.2.2.2.2.2.2.1) i).toInt ∧ ((r.2.2.2.2.2.2.2.2.2.2.2.2.2.2.2.2.2.2.2.2.2.2.1) i).toInt ≤ 3) ∧ (ST (r.2.2.2.2.2.2.2.2.2.2.2.2.2.2.2.2.2.2.2.2.2.2.2.1)) ∧ True) := by
  unfold f_X8_ways
  have l0 : (0 : Int32).toInt = 0 := rfl
  refine sat_cal (s_X8_canAsk t_net_size t_net_near t_bags_size t_bags_masks t_bags_ups (by omega) (by omega)) fun u1 hu1 => ?_
  obtain ⟨hu1_0, -⟩ := hu1
  refine sat_ite (fun hc1 => ?_) (fun hc1 => ?_)
  · have thc1 := congrArg Int32.toInt hc1
    exact sat_some ⟨(by (try dsimp only); omega), h_t_plan_knots, h_t_plan_others, h_t_plan_otherCount, h_t_plan_feeders, h_t_plan_feederCount, (fun i => by have q0 := h_t_plan_places i; (try dsimp only); omega), (by (try dsimp only); omega), h_t_tally_openStates, h_t_tally_openCount, h_t_tally_picks, h_t_tally_strides, trivial⟩
  · have thc1 := neq hc1
    refine sat_cal (s_X8_freshTally t_net_size t_net_near t_bags_size t_bags_masks t_law_size t_law_forbidden t_plan_size t_plan_knots t_plan_others t_plan_otherCount t_plan_scopes t_plan_users t_plan_feeders t_plan_feederCount t_plan_places t_plan_bagMates t_plan_going_left t_plan_going_newEnds t_plan_going_near t_tally_open (by omega) (by omega) (by omega) (by omega) h_t_plan_knots h_t_plan_others h_t_plan_otherCount h_t_plan_feeders h_t_plan_feederCount (fun i => by have q0 := h_t_plan_places i; (try dsimp only); omega) (by omega)) fun u2 hu2 => ?_
    obtain ⟨hu2_0, hu2_1, hu2_2, hu2_3, hu2_6, hu2_7, hu2_8, hu2_10, -⟩ := hu2
    exact j_X8_ways_15 t_net_size t_net_loads t_net_near t_net_ties t_bags_size t_bags_masks t_bags_ups t_law_size t_law_factors t_law_pairFactors t_law_barred t_law_forbidden u2.1 u2.2.1 u2.2.2.1 u2.2.2.2.1 u2.2.2.2.2.1 u2.2.2.2.2.2.1 u2.2.2.2.2.2.2.1 u2.2.2.2.2.2.2.2.1 u2.2.2.2.2.2.2.2.2.1 u2.2.2.2.2.2.2.2.2.2.1 u2.2.2.2.2.2.2.2.2.2.2.1 u2.2.2.2.2.2.2.2.2.2.2.2.1 u2.2.2.2.2.2.2.2.2.2.2.2.2.1 t_tally_sum t_tally_many t_tally_sign t_tally_changed t_tally_pickedSum u2.2.2.2.2.2.2.2.2.2.2.2.2.2 t_tally_openStates t_tally_openCount t_tally_picks t_tally_strides t_tally_sums t_tally_counts (by omega) (by omega) (by omega) (by omega) hu2_1 hu2_2 hu2_3 hu2_6 hu2_7 (fun i => by have q0 := hu2_8 i; (try dsimp only); omega) (by omega) h_t_tally_openStates h_t_tally_openCount h_t_tally_picks h_t_tally_strides
theorem j_X8_best_15  : ∀ (a1 : Int32) (t_net_size : Int32) (t_net_loads : Nat → Int32) (t_net_near : Nat → Int32) (t_net_ties : Nat → Int32) (t_bags_size : Int32) (t_bags_masks : Nat → Int32) (t_bags_ups : Nat → Int32) (t_law_size : Int32) (t_law_factors : Nat → Int32) (t_law_pairFactors : Nat → Int32) (t_law_barred : Nat → Int32) (t_law_forbidden : Nat → Int32) (t_plan_size : Int32) (t_plan_knots : Nat → Int32) (t_plan_others : Nat → Int32) (t_plan_otherCount : Nat → Int32) (t_plan_scopes : Nat → Int32) (t_plan_users : Nat → Int32) (t_plan_feeders : Nat → Int32) (t_plan_feederCount : Nat → Int32) (t_plan_places : Nat → Int32) (t_plan_bagMates : Nat → Int32) (t_plan_going_left : Int32) (t_plan_going_newEnds : Int32) (t_plan_going_near : Nat → Int32) (t_tally_sum : Int32) (t_tally_many : Int32) (t_tally_sign : Int32) (t_tally_changed : Int32) (t_tally_pickedSum : Int32) (t_tally_open : Nat → Int32) (t_tally_openStates : Nat → Int32) (t_tally_openCount : Nat → Int32) (t_tally_picks : Nat → Int32) (t_tally_strides : Nat → Int32) (t_tally_sums : Nat → Int32) (t_tally_counts : Nat → Int32), (0 ≤ t_net_size.toInt ∧ t_net_size.toInt ≤ 14) → (0 ≤ t_bags_size.toInt ∧ t_bags_size.toInt ≤ 14) → (1 ≤ t_law_size.toInt ∧ t_law_size.toInt ≤ 4) → (0 ≤ t_plan_size.toInt ∧ t_plan_size.toInt ≤ 14) → (∀ i, 0 ≤ (t_plan_knots i).toInt ∧ (t_plan_knots i).toInt ≤ 13) → (∀ i, 0 ≤ (t_plan_others i).toInt ∧ (t_plan_others i).toInt ≤ 13) → (∀ i, 0 ≤ (t_plan_otherCount i).toInt ∧ (t_plan_otherCount i).toInt ≤ 4) → (∀ i, 0 ≤ (t_plan_feeders i).toInt ∧ (t_plan_feeders i).toInt ≤ 13) → (∀ i, 0 ≤ (t_plan_feederCount i).toInt ∧ (t_plan_feederCount i).toInt ≤ 14) → (∀ i, 0 ≤ (t_plan_places i).toInt ∧ ((t_plan_places i).toInt = 0 ∨ (t_plan_places i).toInt < t_net_size.toInt)) → (0 ≤ t_plan_going_left.toInt ∧ t_plan_going_left.toInt ≤ 16383) → (∀ i, 0 ≤ (t_tally_openStates i).toInt ∧ (t_tally_openStates i).toInt ≤ 3) → (∀ i, 0 ≤ (t_tally_openCount i).toInt ∧ (t_tally_openCount i).toInt ≤ 4) → (∀ i, 0 ≤ (t_tally_picks i).toInt ∧ (t_tally_picks i).toInt ≤ 3) → (ST t_tally_strides) → Sat (J_X8_best_15 a1 t_net_size t_net_loads t_net_near t_net_ties t_bags_size t_bags_masks t_bags_ups t_law_size t_law_factors t_law_pairFactors t_law_barred t_law_forbidden t_plan_size t_plan_knots t_plan_others t_plan_otherCount t_plan_scopes t_plan_users t_plan_feeders t_plan_feederCount t_plan_places t_plan_bagMates t_plan_going_left t_plan_going_newEnds t_plan_going_near t_tally_sum t_tally_many t_tally_sign t_tally_changed t_tally_pickedSum t_tally_open t_tally_openStates t_tally_openCount t_tally_picks t_tally_strides t_tally_sums t_tally_counts) (fun r => (0 ≤ (r.2.1).toInt ∧ (r.2.1).toInt ≤ 14) ∧ (∀ i, 0 ≤ ((r.2.2.1) i).toInt ∧ ((r.2.2.1) i).toInt ≤ 13) ∧ (∀ i, 0 ≤ ((r.2.2.2.1) i).toInt ∧ ((r.2.2.2.1) i).toInt ≤ 13) ∧ (∀ i, 0 ≤ ((r.2.2.2.2.1) i).toInt ∧ ((r.2.2.2.2.1) i).toInt ≤ 4) ∧ (∀ i, 0 ≤ ((r.2.2.2.2.2.2.2.1) i).toInt ∧ ((r.2.2.2.2.2.2.2.1) i).toInt ≤ 13) ∧ (∀ i, 0 ≤ ((r.2.2.2.2.2.2.2.2.1) i).toInt ∧ ((r.2.2.2.2.2.2.2.2.1) i).toInt ≤ 14) ∧ (∀ i, 0 ≤ ((r.2.2.2.2.2.2.2.2.2.1) i).toInt ∧ (((r.2.2.2.2.2.2.2.2.2.1) i).toInt = 0 ∨ ((r.2.2.2.2.2.2.2.2.2.1) i).toInt < t_net_size.toInt)) ∧ (0 ≤ (r.2.2.2.2.2.2.2.2.2.2.2.1).toInt ∧ (r.2.2.2.2.2.2.2.2.2.2.2.1).toInt ≤ 16383) ∧ (∀ i, 0 ≤ ((r.2.2.2.2.2.2.2.2.2.2.2.2.2.2.2.2.2.2.2.2.1) i).toInt ∧ ((r.2.2.2.2.2.2.2.2.2.2.2.2.2.2.2.2.2.2.2.2.1) i).toInt ≤ 3) ∧ (∀ i, 0 ≤ ((r.2.2.2.2.2.2.2.2.2.2.2.2.2.2.2.2.2.2.2.2.2.1) i).toInt ∧ ((r.2.2.2.2.2.2.2.2.2.2.2.2.2.2.2.2.2.2.2.2.2.1) i).toInt ≤ 4) ∧ (∀ i, 0 ≤ ((r.2.2.2.2.2.2.2.2.2.2.2.2.2.2.2.2.2.2.2.2.2.2.1) i).toInt ∧ ((r.2.2.2.2.2.2.2.2.2.2.2.2.2.2.2.2.2.2.2.2.2.2.1) i).toInt ≤ 3) ∧ (ST (r.2.2.2.2.2.2.2.2.2.2.2.2.2.2.2.2.2.2.2.2.2.2.2.1)) ∧ True) := by
  intro a1 t_net_size t_net_loads t_net_near t_net_ties t_bags_size t_bags_masks t_bags_ups t_law_size t_law_factors t_law_pairFactors t_law_barred t_law_forbidden t_plan_size t_plan_knots t_plan_others t_plan_otherCount t_plan_scopes t_plan_users t_plan_feeders t_plan_feederCount t_plan_places t_plan_bagMates t_plan_going_left t_plan_going_newEnds t_plan_going_near t_tally_sum t_tally_many t_tally_sign t_tally_changed t_tally_pickedSum t_tally_open t_tally_openStates t_tally_openCount t_tally_picks t_tally_strides t_tally_sums t_tally_counts h_t_net_size h_t_bags_size h_t_law_size h_t_plan_size h_t_plan_knots h_t_plan_others h_t_plan_otherCount h_t_plan_feeders h_t_plan_feederCount h_t_plan_places h_t_plan_going_left h_t_tally_openStates h_t_tally_openCount h_t_tally_picks h_t_tally_strides
  unfold J_X8_best_15
  have l0 : (0 : Int32).toInt = 0 := rfl
  refine sat_cal (s_X8_signOf a1) fun u3 hu3 => ?_
  obtain ⟨hu3_0, -⟩ := hu3
  refine sat_cal (s_X7_sweep u3 t_tally_sum t_tally_many t_tally_sign t_tally_changed t_tally_pickedSum t_tally_open t_net_size t_net_loads t_net_near t_net_ties t_law_size t_law_factors t_law_pairFactors t_law_barred t_plan_size t_plan_knots t_plan_others t_plan_otherCount t_plan_scopes t_plan_users t_plan_feeders t_plan_feederCount t_tally_openStates t_tally_openCount t_tally_picks t_tally_strides t_tally_sums t_tally_counts (by omega) (by omega) (by omega) h_t_plan_knots h_t_plan_others h_t_plan_otherCount h_t_plan_feeders h_t_plan_feederCount h_t_tally_openStates h_t_tally_openCount h_t_tally_picks h_t_tally_strides) fun u4 hu4 => ?_
  obtain ⟨hu4_5, hu4_6, hu4_7, hu4_8, -⟩ := hu4
  refine sat_ite (fun hc1 => ?_) (fun hc1 => ?_)
  · have thc1 := congrArg Int32.toInt hc1
    exact sat_some ⟨(by (try dsimp only); omega), h_t_plan_knots, h_t_plan_others, h_t_plan_otherCount, h_t_plan_feeders, h_t_plan_feederCount, (fun i => by have q0 := h_t_plan_places i; (try dsimp only); omega), (by (try dsimp only); omega), hu4_5, hu4_6, hu4_7, hu4_8, trivial⟩
  · have thc1 := neq hc1
    refine sat_cal (s_X8_signOf a1) fun u5 hu5 => ?_
    obtain ⟨hu5_0, -⟩ := hu5
    exact sat_some ⟨(by (try dsimp only); omega), h_t_plan_knots, h_t_plan_others, h_t_plan_otherCount, h_t_plan_feeders, h_t_plan_feederCount, (fun i => by have q0 := h_t_plan_places i; (try dsimp only); omega), (by (try dsimp only); omega), hu4_5, hu4_6, hu4_7, hu4_8, trivial⟩
theorem s_X8_best (a1 : Int32) (t_net_size : Int32) (t_net_loads : Nat → Int32) (t_net_near : Nat → Int32) (t_net_ties : Nat → Int32) (t_bags_size : Int32) (t_bags_masks : Nat → Int32) (t_bags_ups : Nat → Int32) (t_law_size : Int32) (t_law_factors : Nat → Int32) (t_law_pairFactors : Nat → Int32) (t_law_barred : Nat → Int32) (t_law_forbidden : Nat → Int32) (t_plan_size : Int32) (t_plan_knots : Nat → Int32) (t_plan_others : Nat → Int32) (t_plan_otherCount : Nat → Int32) (t_plan_scopes : Nat → Int32) (t_plan_users : Nat → Int32) (t_plan_feeders : Nat → Int32) (t_plan_feederCount : Nat → Int32) (t_plan_places : Nat → Int32) (t_plan_bagMates : Nat → Int32) (t_plan_going_left : Int32) (t_plan_going_newEnds : Int32) (t_plan_going_near : Nat → Int32) (t_tally_sum : Int32) (t_tally_many : Int32) (t_tally_sign : Int32) (t_tally_changed : Int32) (t_tally_pickedSum : Int32) (t_tally_open : Nat → Int32) (t_tally_openStates : Nat → Int32) (t_tally_openCount : Nat → Int32) (t_tally_picks : Nat → Int32) (t_tally_strides : Nat → Int32) (t_tally_sums : Nat → Int32) (t_tally_counts : Nat → Int32) (h_t_net_size : 0 ≤ t_net_size.toInt ∧ t_net_size.toInt ≤ 14) (h_t_bags_size : 0 ≤ t_bags_size.toInt ∧ t_bags_size.toInt ≤ 14) (h_t_law_size : 1 ≤ t_law_size.toInt ∧ t_law_size.toInt ≤ 4) (h_t_plan_size : 0 ≤ t_plan_size.toInt ∧ t_plan_size.toInt ≤ 14) (h_t_plan_knots : ∀ i, 0 ≤ (t_plan_knots i).toInt ∧ (t_plan_knots i).toInt ≤ 13) (h_t_plan_others : ∀ i, 0 ≤ (t_plan_others i).toInt ∧ (t_plan_others i).toInt ≤ 13) (h_t_plan_otherCount : ∀ i, 0 ≤ (t_plan_otherCount i).toInt ∧ (t_plan_otherCount i).toInt ≤ 4) (h_t_plan_feeders : ∀ i, 0 ≤ (t_plan_feeders i).toInt ∧ (t_plan_feeders i).toInt ≤ 13) (h_t_plan_feederCount : ∀ i, 0 ≤ (t_plan_feederCount i).toInt ∧ (t_plan_feederCount i).toInt ≤ 14) (h_t_plan_places : ∀ i, 0 ≤ (t_plan_places i).toInt ∧ ((t_plan_places i).toInt = 0 ∨ (t_plan_places i).toInt < t_net_size.toInt)) (h_t_plan_going_left : 0 ≤ t_plan_going_left.toInt ∧ t_plan_going_left.toInt ≤ 16383) (h_t_tally_openStates : ∀ i, 0 ≤ (t_tally_openStates i).toInt ∧ (t_tally_openStates i).toInt ≤ 3) (h_t_tally_openCount : ∀ i, 0 ≤ (t_tally_openCount i).toInt ∧ (t_tally_openCount i).toInt ≤ 4) (h_t_tally_picks : ∀ i, 0 ≤ (t_tally_picks i).toInt ∧ (t_tally_picks i).toInt ≤ 3) (h_t_tally_strides : ST t_tally_strides) : Sat (f_X8_best a1 t_net_size t_net_loads t_net_near t_net_ties t_bags_size t_bags_masks t_bags_ups t_law_size t_law_factors t_law_pairFactors t_law_barred t_law_forbidden t_plan_size t_plan_knots t_plan_others t_plan_otherCount t_plan_scopes t_plan_users t_plan_feeders t_plan_feederCount t_plan_places t_plan_bagMates t_plan_going_left t_plan_going_newEnds t_plan_going_near t_tally_sum t_tally_many t_tally_sign t_tally_changed t_tally_pickedSum t_tally_open t_tally_openStates t_tally_openCount t_tally_picks t_tally_strides t_tally_sums t_tally_counts) (fun r => (0 ≤ (r.2.1).toInt ∧ (r.2.1).toInt ≤ 14) ∧ (∀ i, 0 ≤ ((r.2.2.1) i).toInt ∧ ((r.2.2.1) i).toInt ≤ 13) ∧ (∀ i, 0 ≤ ((r.2.2.2.1) i).toInt ∧ ((r.2.2.2.1) i).toInt ≤ 13) ∧ (∀ i, 0 ≤ ((r.2.2.2.2.1) i).toInt ∧ ((r.2.2.2.2.1) i).toInt ≤ 4) ∧ (∀ i, 0 ≤ ((r.2.2.2.2.2.2.2.1) i).toInt ∧ ((r.2.2.2.2.2.2.2.1) i).toInt ≤ 13) ∧ (∀ i, 0 ≤ ((r.2.2.2.2.2.2.2.2.1) i).toInt ∧ ((r.2.2.2.2.2.2.2.2.1) i).toInt ≤ 14) ∧ (∀ i, 0 ≤ ((r.2.2.2.2.2.2.2.2.2.1) i).toInt ∧ (((r.2.2.2.2.2.2.2.2.2.1) i).toInt = 0 ∨ ((r.2.2.2.2.2.2.2.2.2.1) i).toInt < t_net_size.toInt)) ∧ (0 ≤ (r.2.2.2.2.2.2.2.2.2.2.2.1).toInt ∧ (r.2.2.2.2.2.2.2.2.2.2.2.1).toInt ≤ 16383) ∧ (∀ i, 0 ≤ ((r.2.2.2.2.2.2.2.2.2.2.2.2.2.2.2.2.2.2.2.2.1) i).toInt ∧ ((r.2.2.2.2.2.2.2.2.2.2.2.2.2.2.2.2.2.2.2.2.1) i).toInt ≤ 3) ∧ (∀ i, 0 ≤ ((r.2.2.2.2.2.2.2.2.2.2.2.2.2.2.2.2.2.2.2.2.2.1) i).toInt ∧ ((r.2.2.2.2.2.2.2.2.2.2.2.2.2.2.2.2.2.2.2.2.2.1) i).toInt ≤ 4) ∧ (∀ i, 0 ≤ ((r.2.2.2.2.2.2.2.2.2.2.2.2.2.2.2.2.2.2.2.2.2.2.1) i).toInt ∧ ((r.2.2.2.2.2.2.2.2.2.2.2.2.2.2.2.2.2.2.2.2.2.2.1) i).toInt ≤ 3) ∧ (ST (r.2.2.2.2.2.2.2.2.2.2.2.2.2.2.2.2.2.2.2.2.2.2.2.1)) ∧ True) := by
  unfold f_X8_best
  have l0 : (0 : Int32).toInt = 0 := rfl
  refine sat_cal (s_X8_canAsk t_net_size t_net_near t_bags_size t_bags_masks t_bags_ups (by omega) (by omega)) fun u1 hu1 => ?_
  obtain ⟨hu1_0, -⟩ := hu1
  refine sat_ite (fun hc1 => ?_) (fun hc1 => ?_)
  · have thc1 := congrArg Int32.toInt hc1
    exact sat_some ⟨(by (try dsimp only); omega), h_t_plan_knots, h_t_plan_others, h_t_plan_otherCount, h_t_plan_feeders, h_t_plan_feederCount, (fun i => by have q0 := h_t_plan_places i; (try dsimp only); omega), (by (try dsimp only); omega), h_t_tally_openStates, h_t_tally_openCount, h_t_tally_picks, h_t_tally_strides, trivial⟩
  · have thc1 := neq hc1
    refine sat_cal (s_X8_freshTally t_net_size t_net_near t_bags_size t_bags_masks t_law_size t_law_forbidden t_plan_size t_plan_knots t_plan_others t_plan_otherCount t_plan_scopes t_plan_users t_plan_feeders t_plan_feederCount t_plan_places t_plan_bagMates t_plan_going_left t_plan_going_newEnds t_plan_going_near t_tally_open (by omega) (by omega) (by omega) (by omega) h_t_plan_knots h_t_plan_others h_t_plan_otherCount h_t_plan_feeders h_t_plan_feederCount (fun i => by have q0 := h_t_plan_places i; (try dsimp only); omega) (by omega)) fun u2 hu2 => ?_
    obtain ⟨hu2_0, hu2_1, hu2_2, hu2_3, hu2_6, hu2_7, hu2_8, hu2_10, -⟩ := hu2
    exact j_X8_best_15 a1 t_net_size t_net_loads t_net_near t_net_ties t_bags_size t_bags_masks t_bags_ups t_law_size t_law_factors t_law_pairFactors t_law_barred t_law_forbidden u2.1 u2.2.1 u2.2.2.1 u2.2.2.2.1 u2.2.2.2.2.1 u2.2.2.2.2.2.1 u2.2.2.2.2.2.2.1 u2.2.2.2.2.2.2.2.1 u2.2.2.2.2.2.2.2.2.1 u2.2.2.2.2.2.2.2.2.2.1 u2.2.2.2.2.2.2.2.2.2.2.1 u2.2.2.2.2.2.2.2.2.2.2.2.1 u2.2.2.2.2.2.2.2.2.2.2.2.2.1 t_tally_sum t_tally_many t_tally_sign t_tally_changed t_tally_pickedSum u2.2.2.2.2.2.2.2.2.2.2.2.2.2 t_tally_openStates t_tally_openCount t_tally_picks t_tally_strides t_tally_sums t_tally_counts (by omega) (by omega) (by omega) (by omega) hu2_1 hu2_2 hu2_3 hu2_6 hu2_7 (fun i => by have q0 := hu2_8 i; (try dsimp only); omega) (by omega) h_t_tally_openStates h_t_tally_openCount h_t_tally_picks h_t_tally_strides
theorem j_X8_bests_15  : ∀ (a1 : Int32) (t_net_size : Int32) (t_net_loads : Nat → Int32) (t_net_near : Nat → Int32) (t_net_ties : Nat → Int32) (t_bags_size : Int32) (t_bags_masks : Nat → Int32) (t_bags_ups : Nat → Int32) (t_law_size : Int32) (t_law_factors : Nat → Int32) (t_law_pairFactors : Nat → Int32) (t_law_barred : Nat → Int32) (t_law_forbidden : Nat → Int32) (t_plan_size : Int32) (t_plan_knots : Nat → Int32) (t_plan_others : Nat → Int32) (t_plan_otherCount : Nat → Int32) (t_plan_scopes : Nat → Int32) (t_plan_users : Nat → Int32) (t_plan_feeders : Nat → Int32) (t_plan_feederCount : Nat → Int32) (t_plan_places : Nat → Int32) (t_plan_bagMates : Nat → Int32) (t_plan_going_left : Int32) (t_plan_going_newEnds : Int32) (t_plan_going_near : Nat → Int32) (t_tally_sum : Int32) (t_tally_many : Int32) (t_tally_sign : Int32) (t_tally_changed : Int32) (t_tally_pickedSum : Int32) (t_tally_open : Nat → Int32) (t_tally_openStates : Nat → Int32) (t_tally_openCount : Nat → Int32) (t_tally_picks : Nat → Int32) (t_tally_strides : Nat → Int32) (t_tally_sums : Nat → Int32) (t_tally_counts : Nat → Int32), (0 ≤ t_net_size.toInt ∧ t_net_size.toInt ≤ 14) → (0 ≤ t_bags_size.toInt ∧ t_bags_size.toInt ≤ 14) → (1 ≤ t_law_size.toInt ∧ t_law_size.toInt ≤ 4) → (0 ≤ t_plan_size.toInt ∧ t_plan_size.toInt ≤ 14) → (∀ i, 0 ≤ (t_plan_knots i).toInt ∧ (t_plan_knots i).toInt ≤ 13) → (∀ i, 0 ≤ (t_plan_others i).toInt ∧ (t_plan_others i).toInt ≤ 13) → (∀ i, 0 ≤ (t_plan_otherCount i).toInt ∧ (t_plan_otherCount i).toInt ≤ 4) → (∀ i, 0 ≤ (t_plan_feeders i).toInt ∧ (t_plan_feeders i).toInt ≤ 13) → (∀ i, 0 ≤ (t_plan_feederCount i).toInt ∧ (t_plan_feederCount i).toInt ≤ 14) → (∀ i, 0 ≤ (t_plan_places i).toInt ∧ ((t_plan_places i).toInt = 0 ∨ (t_plan_places i).toInt < t_net_size.toInt)) → (0 ≤ t_plan_going_left.toInt ∧ t_plan_going_left.toInt ≤ 16383) → (∀ i, 0 ≤ (t_tally_openStates i).toInt ∧ (t_tally_openStates i).toInt ≤ 3) → (∀ i, 0 ≤ (t_tally_openCount i).toInt ∧ (t_tally_openCount i).toInt ≤ 4) → (∀ i, 0 ≤ (t_tally_picks i).toInt ∧ (t_tally_picks i).toInt ≤ 3) → (ST t_tally_strides) → Sat (J_X8_bests_15 a1 t_net_size t_net_loads t_net_near t_net_ties t_bags_size t_bags_masks t_bags_ups t_law_size t_law_factors t_law_pairFactors t_law_barred t_law_forbidden t_plan_size t_plan_knots t_plan_others t_plan_otherCount t_plan_scopes t_plan_users t_plan_feeders t_plan_feederCount t_plan_places t_plan_bagMates t_plan_going_left t_plan_going_newEnds t_plan_going_near t_tally_sum t_tally_many t_tally_sign t_tally_changed t_tally_pickedSum t_tally_open t_tally_openStates t_tally_openCount t_tally_picks t_tally_strides t_tally_sums t_tally_counts) (fun r => (0 ≤ (r.2.1).toInt ∧ (r.2.1).toInt ≤ 14) ∧ (∀ i, 0 ≤ ((r.2.2.1) i).toInt ∧ ((r.2.2.1) i).toInt ≤ 13) ∧ (∀ i, 0 ≤ ((r.2.2.2.1) i).toInt ∧ ((r.2.2.2.1) i).toInt ≤ 13) ∧ (∀ i, 0 ≤ ((r.2.2.2.2.1) i).toInt ∧ ((r.2.2.2.2.1) i).toInt ≤ 4) ∧ (∀ i, 0 ≤ ((r.2.2.2.2.2.2.2.1) i).toInt ∧ ((r.2.2.2.2.2.2.2.1) i).toInt ≤ 13) ∧ (∀ i, 0 ≤ ((r.2.2.2.2.2.2.2.2.1) i).toInt ∧ ((r.2.2.2.2.2.2.2.2.1) i).toInt ≤ 14) ∧ (∀ i, 0 ≤ ((r.2.2.2.2.2.2.2.2.2.1) i).toInt ∧ (((r.2.2.2.2.2.2.2.2.2.1) i).toInt = 0 ∨ ((r.2.2.2.2.2.2.2.2.2.1) i).toInt < t_net_size.toInt)) ∧ (0 ≤ (r.2.2.2.2.2.2.2.2.2.2.2.1).toInt ∧ (r.2.2.2.2.2.2.2.2.2.2.2.1).toInt ≤ 16383) ∧ (∀ i, 0 ≤ ((r.2.2.2.2.2.2.2.2.2.2.2.2.2.2.2.2.2.2.2.2.1) i).toInt ∧ ((r.2.2.2.2.2.2.2.2.2.2.2.2.2.2.2.2.2.2.2.2.1) i).toInt ≤ 3) ∧ (∀ i, 0 ≤ ((r.2.2.2.2.2.2.2.2.2.2.2.2.2.2.2.2.2.2.2.2.2.1) i).toInt ∧ ((r.2.2.2.2.2.2.2.2.2.2.2.2.2.2.2.2.2.2.2.2.2.1) i).toInt ≤ 4) ∧ (∀ i, 0 ≤ ((r.2.2.2.2.2.2.2.2.2.2.2.2.2.2.2.2.2.2.2.2.2.2.1) i).toInt ∧ ((r.2.2.2.2.2.2.2.2.2.2.2.2.2.2.2.2.2.2.2.2.2.2.1) i).toInt ≤ 3) ∧ (ST (r.2.2.2.2.2.2.2.2.2.2.2.2.2.2.2.2.2.2.2.2.2.2.2.1)) ∧ True) := by
  intro a1 t_net_size t_net_loads t_net_near t_net_ties t_bags_size t_bags_masks t_bags_ups t_law_size t_law_factors t_law_pairFactors t_law_barred t_law_forbidden t_plan_size t_plan_knots t_plan_others t_plan_otherCount t_plan_scopes t_plan_users t_plan_feeders t_plan_feederCount t_plan_places t_plan_bagMates t_plan_going_left t_plan_going_newEnds t_plan_going_near t_tally_sum t_tally_many t_tally_sign t_tally_changed t_tally_pickedSum t_tally_open t_tally_openStates t_tally_openCount t_tally_picks t_tally_strides t_tally_sums t_tally_counts h_t_net_size h_t_bags_size h_t_law_size h_t_plan_size h_t_plan_knots h_t_plan_others h_t_plan_otherCount h_t_plan_feeders h_t_plan_feederCount h_t_plan_places h_t_plan_going_left h_t_tally_openStates h_t_tally_openCount h_t_tally_picks h_t_tally_strides
  unfold J_X8_bests_15
  have l0 : (0 : Int32).toInt = 0 := rfl
  refine sat_cal (s_X8_signOf a1) fun u3 hu3 => ?_
  obtain ⟨hu3_0, -⟩ := hu3
  refine sat_cal (s_X7_sweep u3 t_tally_sum t_tally_many t_tally_sign t_tally_changed t_tally_pickedSum t_tally_open t_net_size t_net_loads t_net_near t_net_ties t_law_size t_law_factors t_law_pairFactors t_law_barred t_plan_size t_plan_knots t_plan_others t_plan_otherCount t_plan_scopes t_plan_users t_plan_feeders t_plan_feederCount t_tally_openStates t_tally_openCount t_tally_picks t_tally_strides t_tally_sums t_tally_counts (by omega) (by omega) (by omega) h_t_plan_knots h_t_plan_others h_t_plan_otherCount h_t_plan_feeders h_t_plan_feederCount h_t_tally_openStates h_t_tally_openCount h_t_tally_picks h_t_tally_strides) fun u4 hu4 => ?_
  obtain ⟨hu4_5, hu4_6, hu4_7, hu4_8, -⟩ := hu4
  refine sat_ite (fun hc1 => ?_) (fun hc1 => ?_)
  · have thc1 := congrArg Int32.toInt hc1
    exact sat_some ⟨(by (try dsimp only); omega), h_t_plan_knots, h_t_plan_others, h_t_plan_otherCount, h_t_plan_feeders, h_t_plan_feederCount, (fun i => by have q0 := h_t_plan_places i; (try dsimp only); omega), (by (try dsimp only); omega), hu4_5, hu4_6, hu4_7, hu4_8, trivial⟩
  · have thc1 := neq hc1
    exact sat_some ⟨(by (try dsimp only); omega), h_t_plan_knots, h_t_plan_others, h_t_plan_otherCount, h_t_plan_feeders, h_t_plan_feederCount, (fun i => by have q0 := h_t_plan_places i; (try dsimp only); omega), (by (try dsimp only); omega), hu4_5, hu4_6, hu4_7, hu4_8, trivial⟩
theorem s_X8_bests (a1 : Int32) (t_net_size : Int32) (t_net_loads : Nat → Int32) (t_net_near : Nat → Int32) (t_net_ties : Nat → Int32) (t_bags_size : Int32) (t_bags_masks : Nat → Int32) (t_bags_ups : Nat → Int32) (t_law_size : Int32) (t_law_factors : Nat → Int32) (t_law_pairFactors : Nat → Int32) (t_law_barred : Nat → Int32) (t_law_forbidden : Nat → Int32) (t_plan_size : Int32) (t_plan_knots : Nat → Int32) (t_plan_others : Nat → Int32) (t_plan_otherCount : Nat → Int32) (t_plan_scopes : Nat → Int32) (t_plan_users : Nat → Int32) (t_plan_feeders : Nat → Int32) (t_plan_feederCount : Nat → Int32) (t_plan_places : Nat → Int32) (t_plan_bagMates : Nat → Int32) (t_plan_going_left : Int32) (t_plan_going_newEnds : Int32) (t_plan_going_near : Nat → Int32) (t_tally_sum : Int32) (t_tally_many : Int32) (t_tally_sign : Int32) (t_tally_changed : Int32) (t_tally_pickedSum : Int32) (t_tally_open : Nat → Int32) (t_tally_openStates : Nat → Int32) (t_tally_openCount : Nat → Int32) (t_tally_picks : Nat → Int32) (t_tally_strides : Nat → Int32) (t_tally_sums : Nat → Int32) (t_tally_counts : Nat → Int32) (h_t_net_size : 0 ≤ t_net_size.toInt ∧ t_net_size.toInt ≤ 14) (h_t_bags_size : 0 ≤ t_bags_size.toInt ∧ t_bags_size.toInt ≤ 14) (h_t_law_size : 1 ≤ t_law_size.toInt ∧ t_law_size.toInt ≤ 4) (h_t_plan_size : 0 ≤ t_plan_size.toInt ∧ t_plan_size.toInt ≤ 14) (h_t_plan_knots : ∀ i, 0 ≤ (t_plan_knots i).toInt ∧ (t_plan_knots i).toInt ≤ 13) (h_t_plan_others : ∀ i, 0 ≤ (t_plan_others i).toInt ∧ (t_plan_others i).toInt ≤ 13) (h_t_plan_otherCount : ∀ i, 0 ≤ (t_plan_otherCount i).toInt ∧ (t_plan_otherCount i).toInt ≤ 4) (h_t_plan_feeders : ∀ i, 0 ≤ (t_plan_feeders i).toInt ∧ (t_plan_feeders i).toInt ≤ 13) (h_t_plan_feederCount : ∀ i, 0 ≤ (t_plan_feederCount i).toInt ∧ (t_plan_feederCount i).toInt ≤ 14) (h_t_plan_places : ∀ i, 0 ≤ (t_plan_places i).toInt ∧ ((t_plan_places i).toInt = 0 ∨ (t_plan_places i).toInt < t_net_size.toInt)) (h_t_plan_going_left : 0 ≤ t_plan_going_left.toInt ∧ t_plan_going_left.toInt ≤ 16383) (h_t_tally_openStates : ∀ i, 0 ≤ (t_tally_openStates i).toInt ∧ (t_tally_openStates i).toInt ≤ 3) (h_t_tally_openCount : ∀ i, 0 ≤ (t_tally_openCount i).toInt ∧ (t_tally_openCount i).toInt ≤ 4) (h_t_tally_picks : ∀ i, 0 ≤ (t_tally_picks i).toInt ∧ (t_tally_picks i).toInt ≤ 3) (h_t_tally_strides : ST t_tally_strides) : Sat (f_X8_bests a1 t_net_size t_net_loads t_net_near t_net_ties t_bags_size t_bags_masks t_bags_ups t_law_size t_law_factors t_law_pairFactors t_law_barred t_law_forbidden t_plan_size t_plan_knots t_plan_others t_plan_otherCount t_plan_scopes t_plan_users t_plan_feeders t_plan_feederCount t_plan_places t_plan_bagMates t_plan_going_left t_plan_going_newEnds t_plan_going_near t_tally_sum t_tally_many t_tally_sign t_tally_changed t_tally_pickedSum t_tally_open t_tally_openStates t_tally_openCount t_tally_picks t_tally_strides t_tally_sums t_tally_counts) (fun r => (0 ≤ (r.2.1).toInt ∧ (r.2.1).toInt ≤ 14) ∧ (∀ i, 0 ≤ ((r.2.2.1) i).toInt ∧ ((r.2.2.1) i).toInt ≤ 13) ∧ (∀ i, 0 ≤ ((r.2.2.2.1) i).toInt ∧ ((r.2.2.2.1) i).toInt ≤ 13) ∧ (∀ i, 0 ≤ ((r.2.2.2.2.1) i).toInt ∧ ((r.2.2.2.2.1) i).toInt ≤ 4) ∧ (∀ i, 0 ≤ ((r.2.2.2.2.2.2.2.1) i).toInt ∧ ((r.2.2.2.2.2.2.2.1) i).toInt ≤ 13) ∧ (∀ i, 0 ≤ ((r.2.2.2.2.2.2.2.2.1) i).toInt ∧ ((r.2.2.2.2.2.2.2.2.1) i).toInt ≤ 14) ∧ (∀ i, 0 ≤ ((r.2.2.2.2.2.2.2.2.2.1) i).toInt ∧ (((r.2.2.2.2.2.2.2.2.2.1) i).toInt = 0 ∨ ((r.2.2.2.2.2.2.2.2.2.1) i).toInt < t_net_size.toInt)) ∧ (0 ≤ (r.2.2.2.2.2.2.2.2.2.2.2.1).toInt ∧ (r.2.2.2.2.2.2.2.2.2.2.2.1).toInt ≤ 16383) ∧ (∀ i, 0 ≤ ((r.2.2.2.2.2.2.2.2.2.2.2.2.2.2.2.2.2.2.2.2.1) i).toInt ∧ ((r.2.2.2.2.2.2.2.2.2.2.2.2.2.2.2.2.2.2.2.2.1) i).toInt ≤ 3) ∧ (∀ i, 0 ≤ ((r.2.2.2.2.2.2.2.2.2.2.2.2.2.2.2.2.2.2.2.2.2.1) i).toInt ∧ ((r.2.2.2.2.2.2.2.2.2.2.2.2.2.2.2.2.2.2.2.2.2.1) i).toInt ≤ 4) ∧ (∀ i, 0 ≤ ((r.2.2.2.2.2.2.2.2.2.2.2.2.2.2.2.2.2.2.2.2.2.2.1) i).toInt ∧ ((r.2.2.2.2.2.2.2.2.2.2.2.2.2.2.2.2.2.2.2.2.2.2.1) i).toInt ≤ 3) ∧ (ST (r.2.2.2.2.2.2.2.2.2.2.2.2.2.2.2.2.2.2.2.2.2.2.2.1)) ∧ True) := by
  unfold f_X8_bests
  have l0 : (0 : Int32).toInt = 0 := rfl
  refine sat_cal (s_X8_canAsk t_net_size t_net_near t_bags_size t_bags_masks t_bags_ups (by omega) (by omega)) fun u1 hu1 => ?_
  obtain ⟨hu1_0, -⟩ := hu1
  refine sat_ite (fun hc1 => ?_) (fun hc1 => ?_)
  · have thc1 := congrArg Int32.toInt hc1
    exact sat_some ⟨(by (try dsimp only); omega), h_t_plan_knots, h_t_plan_others, h_t_plan_otherCount, h_t_plan_feeders, h_t_plan_feederCount, (fun i => by have q0 := h_t_plan_places i; (try dsimp only); omega), (by (try dsimp only); omega), h_t_tally_openStates, h_t_tally_openCount, h_t_tally_picks, h_t_tally_strides, trivial⟩
  · have thc1 := neq hc1
    refine sat_cal (s_X8_freshTally t_net_size t_net_near t_bags_size t_bags_masks t_law_size t_law_forbidden t_plan_size t_plan_knots t_plan_others t_plan_otherCount t_plan_scopes t_plan_users t_plan_feeders t_plan_feederCount t_plan_places t_plan_bagMates t_plan_going_left t_plan_going_newEnds t_plan_going_near t_tally_open (by omega) (by omega) (by omega) (by omega) h_t_plan_knots h_t_plan_others h_t_plan_otherCount h_t_plan_feeders h_t_plan_feederCount (fun i => by have q0 := h_t_plan_places i; (try dsimp only); omega) (by omega)) fun u2 hu2 => ?_
    obtain ⟨hu2_0, hu2_1, hu2_2, hu2_3, hu2_6, hu2_7, hu2_8, hu2_10, -⟩ := hu2
    exact j_X8_bests_15 a1 t_net_size t_net_loads t_net_near t_net_ties t_bags_size t_bags_masks t_bags_ups t_law_size t_law_factors t_law_pairFactors t_law_barred t_law_forbidden u2.1 u2.2.1 u2.2.2.1 u2.2.2.2.1 u2.2.2.2.2.1 u2.2.2.2.2.2.1 u2.2.2.2.2.2.2.1 u2.2.2.2.2.2.2.2.1 u2.2.2.2.2.2.2.2.2.1 u2.2.2.2.2.2.2.2.2.2.1 u2.2.2.2.2.2.2.2.2.2.2.1 u2.2.2.2.2.2.2.2.2.2.2.2.1 u2.2.2.2.2.2.2.2.2.2.2.2.2.1 t_tally_sum t_tally_many t_tally_sign t_tally_changed t_tally_pickedSum u2.2.2.2.2.2.2.2.2.2.2.2.2.2 t_tally_openStates t_tally_openCount t_tally_picks t_tally_strides t_tally_sums t_tally_counts (by omega) (by omega) (by omega) (by omega) hu2_1 hu2_2 hu2_3 hu2_6 hu2_7 (fun i => by have q0 := hu2_8 i; (try dsimp only); omega) (by omega) h_t_tally_openStates h_t_tally_openCount h_t_tally_picks h_t_tally_strides
theorem j_X8_choice_27  : ∀ (a1 : Int32) (a2 : Int32) (t_net_size : Int32) (t_net_loads : Nat → Int32) (t_net_near : Nat → Int32) (t_net_ties : Nat → Int32) (t_bags_size : Int32) (t_bags_masks : Nat → Int32) (t_bags_ups : Nat → Int32) (t_law_size : Int32) (t_law_factors : Nat → Int32) (t_law_pairFactors : Nat → Int32) (t_law_barred : Nat → Int32) (t_law_forbidden : Nat → Int32) (t_plan_size : Int32) (t_plan_knots : Nat → Int32) (t_plan_others : Nat → Int32) (t_plan_otherCount : Nat → Int32) (t_plan_scopes : Nat → Int32) (t_plan_users : Nat → Int32) (t_plan_feeders : Nat → Int32) (t_plan_feederCount : Nat → Int32) (t_plan_places : Nat → Int32) (t_plan_bagMates : Nat → Int32) (t_plan_going_left : Int32) (t_plan_going_newEnds : Int32) (t_plan_going_near : Nat → Int32) (t_tally_sum : Int32) (t_tally_many : Int32) (t_tally_sign : Int32) (t_tally_changed : Int32) (t_tally_pickedSum : Int32) (t_tally_aim : Int32) (t_tally_before : Int64) (t_tally_open : Nat → Int32) (t_tally_openStates : Nat → Int32) (t_tally_openCount : Nat → Int32) (t_tally_picks : Nat → Int32) (t_tally_strides : Nat → Int32) (t_tally_sums : Nat → Int32) (t_tally_counts : Nat → Int32), (0 ≤ a2.toInt ∧ a2.toInt ≤ 13) → (0 ≤ t_net_size.toInt ∧ t_net_size.toInt ≤ 14) → (0 ≤ t_bags_size.toInt ∧ t_bags_size.toInt ≤ 14) → (1 ≤ t_law_size.toInt ∧ t_law_size.toInt ≤ 4) → (0 ≤ t_plan_size.toInt ∧ t_plan_size.toInt ≤ 14) → (∀ i, 0 ≤ (t_plan_knots i).toInt ∧ (t_plan_knots i).toInt ≤ 13) → (∀ i, 0 ≤ (t_plan_others i).toInt ∧ (t_plan_others i).toInt ≤ 13) → (∀ i, 0 ≤ (t_plan_otherCount i).toInt ∧ (t_plan_otherCount i).toInt ≤ 4) → (∀ i, 0 ≤ (t_plan_feeders i).toInt ∧ (t_plan_feeders i).toInt ≤ 13) → (∀ i, 0 ≤ (t_plan_feederCount i).toInt ∧ (t_plan_feederCount i).toInt ≤ 14) → (∀ i, 0 ≤ (t_plan_places i).toInt ∧ ((t_plan_places i).toInt = 0 ∨ (t_plan_places i).toInt < t_net_size.toInt)) → (0 ≤ t_plan_going_left.toInt ∧ t_plan_going_left.toInt ≤ 16383) → (∀ i, 0 ≤ (t_tally_openStates i).toInt ∧ (t_tally_openStates i).toInt ≤ 3) → (∀ i, 0 ≤ (t_tally_openCount i).toInt ∧ (t_tally_openCount i).toInt ≤ 4) → (∀ i, 0 ≤ (t_tally_picks i).toInt ∧ (t_tally_picks i).toInt ≤ 3) → (ST t_tally_strides) → Sat (J_X8_choice_27 a1 a2 t_net_size t_net_loads t_net_near t_net_ties t_bags_size t_bags_masks t_bags_ups t_law_size t_law_factors t_law_pairFactors t_law_barred t_law_forbidden t_plan_size t_plan_knots t_plan_others t_plan_otherCount t_plan_scopes t_plan_users t_plan_feeders t_plan_feederCount t_plan_places t_plan_bagMates t_plan_going_left t_plan_going_newEnds t_plan_going_near t_tally_sum t_tally_many t_tally_sign t_tally_changed t_tally_pickedSum t_tally_aim t_tally_before t_tally_open t_tally_openStates t_tally_openCount t_tally_picks t_tally_strides t_tally_sums t_tally_counts) (fun r => (0 ≤ (r.2.1).toInt ∧ (r.2.1).toInt ≤ 14) ∧ (∀ i, 0 ≤ ((r.2.2.1) i).toInt ∧ ((r.2.2.1) i).toInt ≤ 13) ∧ (∀ i, 0 ≤ ((r.2.2.2.1) i).toInt ∧ ((r.2.2.2.1) i).toInt ≤ 13) ∧ (∀ i, 0 ≤ ((r.2.2.2.2.1) i).toInt ∧ ((r.2.2.2.2.1) i).toInt ≤ 4) ∧ (∀ i, 0 ≤ ((r.2.2.2.2.2.2.2.1) i).toInt ∧ ((r.2.2.2.2.2.2.2.1) i).toInt ≤ 13) ∧ (∀ i, 0 ≤ ((r.2.2.2.2.2.2.2.2.1) i).toInt ∧ ((r.2.2.2.2.2.2.2.2.1) i).toInt ≤ 14) ∧ (∀ i, 0 ≤ ((r.2.2.2.2.2.2.2.2.2.1) i).toInt ∧ (((r.2.2.2.2.2.2.2.2.2.1) i).toInt = 0 ∨ ((r.2.2.2.2.2.2.2.2.2.1) i).toInt < t_net_size.toInt)) ∧ (0 ≤ (r.2.2.2.2.2.2.2.2.2.2.2.1).toInt ∧ (r.2.2.2.2.2.2.2.2.2.2.2.1).toInt ≤ 16383) ∧ (∀ i, 0 ≤ ((r.2.2.2.2.2.2.2.2.2.2.2.2.2.2.2.2.2.2.2.2.2.2.1) i).toInt ∧ ((r.2.2.2.2.2.2.2.2.2.2.2.2.2.2.2.2.2.2.2.2.2.2.1) i).toInt ≤ 3) ∧ (∀ i, 0 ≤ ((r.2.2.2.2.2.2.2.2.2.2.2.2.2.2.2.2.2.2.2.2.2.2.2.1) i).toInt ∧ ((r.2.2.2.2.2.2.2.2.2.2.2.2.2.2.2.2.2.2.2.2.2.2.2.1) i).toInt ≤ 4) ∧ (∀ i, 0 ≤ ((r.2.2.2.2.2.2.2.2.2.2.2.2.2.2.2.2.2.2.2.2.2.2.2.2.1) i).toInt ∧ ((r.2.2.2.2.2.2.2.2.2.2.2.2.2.2.2.2.2.2.2.2.2.2.2.2.1) i).toInt ≤ 3) ∧ (ST (r.2.2.2.2.2.2.2.2.2.2.2.2.2.2.2.2.2.2.2.2.2.2.2.2.2.1)) ∧ True) := by
  intro a1 a2 t_net_size t_net_loads t_net_near t_net_ties t_bags_size t_bags_masks t_bags_ups t_law_size t_law_factors t_law_pairFactors t_law_barred t_law_forbidden t_plan_size t_plan_knots t_plan_others t_plan_otherCount t_plan_scopes t_plan_users t_plan_feeders t_plan_feederCount t_plan_places t_plan_bagMates t_plan_going_left t_plan_going_newEnds t_plan_going_near t_tally_sum t_tally_many t_tally_sign t_tally_changed t_tally_pickedSum t_tally_aim t_tally_before t_tally_open t_tally_openStates t_tally_openCount t_tally_picks t_tally_strides t_tally_sums t_tally_counts h_a2 h_t_net_size h_t_bags_size h_t_law_size h_t_plan_size h_t_plan_knots h_t_plan_others h_t_plan_otherCount h_t_plan_feeders h_t_plan_feederCount h_t_plan_places h_t_plan_going_left h_t_tally_openStates h_t_tally_openCount h_t_tally_picks h_t_tally_strides
  unfold J_X8_choice_27
  refine sat_cal (s_X8_signOf a1) fun u4 hu4 => ?_
  obtain ⟨hu4_0, -⟩ := hu4
  refine sat_cal (s_X7_stateInWay u4 (0 : Int64) a2 t_tally_sum t_tally_many t_tally_sign t_tally_changed t_tally_pickedSum t_tally_aim t_tally_before t_tally_open t_net_size t_net_loads t_net_near t_net_ties t_law_size t_law_factors t_law_pairFactors t_law_barred t_plan_size t_plan_knots t_plan_others t_plan_otherCount t_plan_scopes t_plan_users t_plan_feeders t_plan_feederCount t_tally_openStates t_tally_openCount t_tally_picks t_tally_strides t_tally_sums t_tally_counts (by omega) (by omega) (by omega) (by omega) h_t_plan_knots h_t_plan_others h_t_plan_otherCount h_t_plan_feeders h_t_plan_feederCount h_t_tally_openStates h_t_tally_openCount h_t_tally_picks h_t_tally_strides) fun u5 hu5 => ?_
  obtain ⟨hu5_9, hu5_10, hu5_11, hu5_12, -⟩ := hu5
  exact sat_some ⟨(by (try dsimp only); omega), h_t_plan_knots, h_t_plan_others, h_t_plan_otherCount, h_t_plan_feeders, h_t_plan_feederCount, (fun i => by have q0 := h_t_plan_places i; (try dsimp only); omega), (by (try dsimp only); omega), hu5_9, hu5_10, hu5_11, hu5_12, trivial⟩
theorem s_X8_choice (a1 : Int32) (a2 : Int32) (t_net_size : Int32) (t_net_loads : Nat → Int32) (t_net_near : Nat → Int32) (t_net_ties : Nat → Int32) (t_bags_size : Int32) (t_bags_masks : Nat → Int32) (t_bags_ups : Nat → Int32) (t_law_size : Int32) (t_law_factors : Nat → Int32) (t_law_pairFactors : Nat → Int32) (t_law_barred : Nat → Int32) (t_law_forbidden : Nat → Int32) (t_plan_size : Int32) (t_plan_knots : Nat → Int32) (t_plan_others : Nat → Int32) (t_plan_otherCount : Nat → Int32) (t_plan_scopes : Nat → Int32) (t_plan_users : Nat → Int32) (t_plan_feeders : Nat → Int32) (t_plan_feederCount : Nat → Int32) (t_plan_places : Nat → Int32) (t_plan_bagMates : Nat → Int32) (t_plan_going_left : Int32) (t_plan_going_newEnds : Int32) (t_plan_going_near : Nat → Int32) (t_tally_sum : Int32) (t_tally_many : Int32) (t_tally_sign : Int32) (t_tally_changed : Int32) (t_tally_pickedSum : Int32) (t_tally_aim : Int32) (t_tally_before : Int64) (t_tally_open : Nat → Int32) (t_tally_openStates : Nat → Int32) (t_tally_openCount : Nat → Int32) (t_tally_picks : Nat → Int32) (t_tally_strides : Nat → Int32) (t_tally_sums : Nat → Int32) (t_tally_counts : Nat → Int32) (h_t_net_size : 0 ≤ t_net_size.toInt ∧ t_net_size.toInt ≤ 14) (h_t_bags_size : 0 ≤ t_bags_size.toInt ∧ t_bags_size.toInt ≤ 14) (h_t_law_size : 1 ≤ t_law_size.toInt ∧ t_law_size.toInt ≤ 4) (h_t_plan_size : 0 ≤ t_plan_size.toInt ∧ t_plan_size.toInt ≤ 14) (h_t_plan_knots : ∀ i, 0 ≤ (t_plan_knots i).toInt ∧ (t_plan_knots i).toInt ≤ 13) (h_t_plan_others : ∀ i, 0 ≤ (t_plan_others i).toInt ∧ (t_plan_others i).toInt ≤ 13) (h_t_plan_otherCount : ∀ i, 0 ≤ (t_plan_otherCount i).toInt ∧ (t_plan_otherCount i).toInt ≤ 4) (h_t_plan_feeders : ∀ i, 0 ≤ (t_plan_feeders i).toInt ∧ (t_plan_feeders i).toInt ≤ 13) (h_t_plan_feederCount : ∀ i, 0 ≤ (t_plan_feederCount i).toInt ∧ (t_plan_feederCount i).toInt ≤ 14) (h_t_plan_places : ∀ i, 0 ≤ (t_plan_places i).toInt ∧ ((t_plan_places i).toInt = 0 ∨ (t_plan_places i).toInt < t_net_size.toInt)) (h_t_plan_going_left : 0 ≤ t_plan_going_left.toInt ∧ t_plan_going_left.toInt ≤ 16383) (h_t_tally_openStates : ∀ i, 0 ≤ (t_tally_openStates i).toInt ∧ (t_tally_openStates i).toInt ≤ 3) (h_t_tally_openCount : ∀ i, 0 ≤ (t_tally_openCount i).toInt ∧ (t_tally_openCount i).toInt ≤ 4) (h_t_tally_picks : ∀ i, 0 ≤ (t_tally_picks i).toInt ∧ (t_tally_picks i).toInt ≤ 3) (h_t_tally_strides : ST t_tally_strides) : Sat (f_X8_choice a1 a2 t_net_size t_net_loads t_net_near t_net_ties t_bags_size t_bags_masks t_bags_ups t_law_size t_law_factors t_law_pairFactors t_law_barred t_law_forbidden t_plan_size t_plan_knots t_plan_others t_plan_otherCount t_plan_scopes t_plan_users t_plan_feeders t_plan_feederCount t_plan_places t_plan_bagMates t_plan_going_left t_plan_going_newEnds t_plan_going_near t_tally_sum t_tally_many t_tally_sign t_tally_changed t_tally_pickedSum t_tally_aim t_tally_before t_tally_open t_tally_openStates t_tally_openCount t_tally_picks t_tally_strides t_tally_sums t_tally_counts) (fun r => (0 ≤ (r.2.1).toInt ∧ (r.2.1).toInt ≤ 14) ∧ (∀ i, 0 ≤ ((r.2.2.1) i).toInt ∧ ((r.2.2.1) i).toInt ≤ 13) ∧ (∀ i, 0 ≤ ((r.2.2.2.1) i).toInt ∧ ((r.2.2.2.1) i).toInt ≤ 13) ∧ (∀ i, 0 ≤ ((r.2.2.2.2.1) i).toInt ∧ ((r.2.2.2.2.1) i).toInt ≤ 4) ∧ (∀ i, 0 ≤ ((r.2.2.2.2.2.2.2.1) i).toInt ∧ ((r.2.2.2.2.2.2.2.1) i).toInt ≤ 13) ∧ (∀ i, 0 ≤ ((r.2.2.2.2.2.2.2.2.1) i).toInt ∧ ((r.2.2.2.2.2.2.2.2.1) i).toInt ≤ 14) ∧ (∀ i, 0 ≤ ((r.2.2.2.2.2.2.2.2.2.1) i).toInt ∧ (((r.2.2.2.2.2.2.2.2.2.1) i).toInt = 0 ∨ ((r.2.2.2.2.2.2.2.2.2.1) i).toInt < t_net_size.toInt)) ∧ (0 ≤ (r.2.2.2.2.2.2.2.2.2.2.2.1).toInt ∧ (r.2.2.2.2.2.2.2.2.2.2.2.1).toInt ≤ 16383) ∧ (∀ i, 0 ≤ ((r.2.2.2.2.2.2.2.2.2.2.2.2.2.2.2.2.2.2.2.2.2.2.1) i).toInt ∧ ((r.2.2.2.2.2.2.2.2.2.2.2.2.2.2.2.2.2.2.2.2.2.2.1) i).toInt ≤ 3) ∧ (∀ i, 0 ≤ ((r.2.2.2.2.2.2.2.2.2.2.2.2.2.2.2.2.2.2.2.2.2.2.2.1) i).toInt ∧ ((r.2.2.2.2.2.2.2.2.2.2.2.2.2.2.2.2.2.2.2.2.2.2.2.1) i).toInt ≤ 4) ∧ (∀ i, 0 ≤ ((r.2.2.2.2.2.2.2.2.2.2.2.2.2.2.2.2.2.2.2.2.2.2.2.2.1) i).toInt ∧ ((r.2.2.2.2.2.2.2.2.2.2.2.2.2.2.2.2.2.2.2.2.2.2.2.2.1) i).toInt ≤ 3) ∧ (ST (r.2.2.2.2.2.2.2.2.2.2.2.2.2.2.2.2.2.2.2.2.2.2.2.2.2.1)) ∧ True) := by
  unfold f_X8_choice
  have l0 : (0 : Int32).toInt = 0 := rfl
  refine sat_cal (s_X4_has a2 t_net_size (by omega)) fun u1 hu1 => ?_
  obtain ⟨hu1_0, -⟩ := hu1
  refine sat_ite (fun hc1 => ?_) (fun hc1 => ?_)
  · have thc1 := congrArg Int32.toInt hc1
    exact sat_some ⟨(by (try dsimp only); omega), h_t_plan_knots, h_t_plan_others, h_t_plan_otherCount, h_t_plan_feeders, h_t_plan_feederCount, (fun i => by have q0 := h_t_plan_places i; (try dsimp only); omega), (by (try dsimp only); omega), h_t_tally_openStates, h_t_tally_openCount, h_t_tally_picks, h_t_tally_strides, trivial⟩
  · have thc1 := neq hc1
    refine sat_cal (s_X8_canAsk t_net_size t_net_near t_bags_size t_bags_masks t_bags_ups (by omega) (by omega)) fun u2 hu2 => ?_
    obtain ⟨hu2_0, -⟩ := hu2
    refine sat_ite (fun hc2 => ?_) (fun hc2 => ?_)
    · have thc2 := congrArg Int32.toInt hc2
      exact sat_some ⟨(by (try dsimp only); omega), h_t_plan_knots, h_t_plan_others, h_t_plan_otherCount, h_t_plan_feeders, h_t_plan_feederCount, (fun i => by have q0 := h_t_plan_places i; (try dsimp only); omega), (by (try dsimp only); omega), h_t_tally_openStates, h_t_tally_openCount, h_t_tally_picks, h_t_tally_strides, trivial⟩
    · have thc2 := neq hc2
      refine sat_cal (s_X8_freshTally t_net_size t_net_near t_bags_size t_bags_masks t_law_size t_law_forbidden t_plan_size t_plan_knots t_plan_others t_plan_otherCount t_plan_scopes t_plan_users t_plan_feeders t_plan_feederCount t_plan_places t_plan_bagMates t_plan_going_left t_plan_going_newEnds t_plan_going_near t_tally_open (by omega) (by omega) (by omega) (by omega) h_t_plan_knots h_t_plan_others h_t_plan_otherCount h_t_plan_feeders h_t_plan_feederCount (fun i => by have q0 := h_t_plan_places i; (try dsimp only); omega) (by omega)) fun u3 hu3 => ?_
      obtain ⟨hu3_0, hu3_1, hu3_2, hu3_3, hu3_6, hu3_7, hu3_8, hu3_10, -⟩ := hu3
      exact j_X8_choice_27 a1 a2 t_net_size t_net_loads t_net_near t_net_ties t_bags_size t_bags_masks t_bags_ups t_law_size t_law_factors t_law_pairFactors t_law_barred t_law_forbidden u3.1 u3.2.1 u3.2.2.1 u3.2.2.2.1 u3.2.2.2.2.1 u3.2.2.2.2.2.1 u3.2.2.2.2.2.2.1 u3.2.2.2.2.2.2.2.1 u3.2.2.2.2.2.2.2.2.1 u3.2.2.2.2.2.2.2.2.2.1 u3.2.2.2.2.2.2.2.2.2.2.1 u3.2.2.2.2.2.2.2.2.2.2.2.1 u3.2.2.2.2.2.2.2.2.2.2.2.2.1 t_tally_sum t_tally_many t_tally_sign t_tally_changed t_tally_pickedSum t_tally_aim t_tally_before u3.2.2.2.2.2.2.2.2.2.2.2.2.2 t_tally_openStates t_tally_openCount t_tally_picks t_tally_strides t_tally_sums t_tally_counts (by omega) (by omega) (by omega) (by omega) (by omega) hu3_1 hu3_2 hu3_3 hu3_6 hu3_7 (fun i => by have q0 := hu3_8 i; (try dsimp only); omega) (by omega) h_t_tally_openStates h_t_tally_openCount h_t_tally_picks h_t_tally_strides
theorem j_X8_drawn_33  : ∀ (a1 : Int64) (a3 : Int32) (t_net_size : Int32) (t_net_loads : Nat → Int32) (t_net_near : Nat → Int32) (t_net_ties : Nat → Int32) (t_bags_size : Int32) (t_bags_masks : Nat → Int32) (t_bags_ups : Nat → Int32) (t_law_size : Int32) (t_law_factors : Nat → Int32) (t_law_pairFactors : Nat → Int32) (t_law_barred : Nat → Int32) (t_law_forbidden : Nat → Int32) (t_plan_size : Int32) (t_plan_knots : Nat → Int32) (t_plan_others : Nat → Int32) (t_plan_otherCount : Nat → Int32) (t_plan_scopes : Nat → Int32) (t_plan_users : Nat → Int32) (t_plan_feeders : Nat → Int32) (t_plan_feederCount : Nat → Int32) (t_plan_places : Nat → Int32) (t_plan_bagMates : Nat → Int32) (t_plan_going_left : Int32) (t_plan_going_newEnds : Int32) (t_plan_going_near : Nat → Int32) (t_tally_sum : Int32) (t_tally_many : Int32) (t_tally_sign : Int32) (t_tally_changed : Int32) (t_tally_pickedSum : Int32) (t_tally_aim : Int32) (t_tally_before : Int64) (t_tally_open : Nat → Int32) (t_tally_openStates : Nat → Int32) (t_tally_openCount : Nat → Int32) (t_tally_picks : Nat → Int32) (t_tally_strides : Nat → Int32) (t_tally_sums : Nat → Int32) (t_tally_counts : Nat → Int32), (0 ≤ a3.toInt ∧ a3.toInt ≤ 13) → (0 ≤ t_net_size.toInt ∧ t_net_size.toInt ≤ 14) → (0 ≤ t_bags_size.toInt ∧ t_bags_size.toInt ≤ 14) → (1 ≤ t_law_size.toInt ∧ t_law_size.toInt ≤ 4) → (0 ≤ t_plan_size.toInt ∧ t_plan_size.toInt ≤ 14) → (∀ i, 0 ≤ (t_plan_knots i).toInt ∧ (t_plan_knots i).toInt ≤ 13) → (∀ i, 0 ≤ (t_plan_others i).toInt ∧ (t_plan_others i).toInt ≤ 13) → (∀ i, 0 ≤ (t_plan_otherCount i).toInt ∧ (t_plan_otherCount i).toInt ≤ 4) → (∀ i, 0 ≤ (t_plan_feeders i).toInt ∧ (t_plan_feeders i).toInt ≤ 13) → (∀ i, 0 ≤ (t_plan_feederCount i).toInt ∧ (t_plan_feederCount i).toInt ≤ 14) → (∀ i, 0 ≤ (t_plan_places i).toInt ∧ ((t_plan_places i).toInt = 0 ∨ (t_plan_places i).toInt < t_net_size.toInt)) → (0 ≤ t_plan_going_left.toInt ∧ t_plan_going_left.toInt ≤ 16383) → (∀ i, 0 ≤ (t_tally_openStates i).toInt ∧ (t_tally_openStates i).toInt ≤ 3) → (∀ i, 0 ≤ (t_tally_openCount i).toInt ∧ (t_tally_openCount i).toInt ≤ 4) → (∀ i, 0 ≤ (t_tally_picks i).toInt ∧ (t_tally_picks i).toInt ≤ 3) → (ST t_tally_strides) → Sat (J_X8_drawn_33 a1 a3 t_net_size t_net_loads t_net_near t_net_ties t_bags_size t_bags_masks t_bags_ups t_law_size t_law_factors t_law_pairFactors t_law_barred t_law_forbidden t_plan_size t_plan_knots t_plan_others t_plan_otherCount t_plan_scopes t_plan_users t_plan_feeders t_plan_feederCount t_plan_places t_plan_bagMates t_plan_going_left t_plan_going_newEnds t_plan_going_near t_tally_sum t_tally_many t_tally_sign t_tally_changed t_tally_pickedSum t_tally_aim t_tally_before t_tally_open t_tally_openStates t_tally_openCount t_tally_picks t_tally_strides t_tally_sums t_tally_counts) (fun r => (0 ≤ (r.2.1).toInt ∧ (r.2.1).toInt ≤ 14) ∧ (∀ i, 0 ≤ ((r.2.2.1) i).toInt ∧ ((r.2.2.1) i).toInt ≤ 13) ∧ (∀ i, 0 ≤ ((r.2.2.2.1) i).toInt ∧ ((r.2.2.2.1) i).toInt ≤ 13) ∧ (∀ i, 0 ≤ ((r.2.2.2.2.1) i).toInt ∧ ((r.2.2.2.2.1) i).toInt ≤ 4) ∧ (∀ i, 0 ≤ ((r.2.2.2.2.2.2.2.1) i).toInt ∧ ((r.2.2.2.2.2.2.2.1) i).toInt ≤ 13) ∧ (∀ i, 0 ≤ ((r.2.2.2.2.2.2.2.2.1) i).toInt ∧ ((r.2.2.2.2.2.2.2.2.1) i).toInt ≤ 14) ∧ (∀ i, 0 ≤ ((r.2.2.2.2.2.2.2.2.2.1) i).toInt ∧ (((r.2.2.2.2.2.2.2.2.2.1) i).toInt = 0 ∨ ((r.2.2.2.2.2.2.2.2.2.1) i).toInt < t_net_size.toInt)) ∧ (0 ≤ (r.2.2.2.2.2.2.2.2.2.2.2.1).toInt ∧ (r.2.2.2.2.2.2.2.2.2.2.2.1).toInt ≤ 16383) ∧ (∀ i, 0 ≤ ((r.2.2.2.2.2.2.2.2.2.2.2.2.2.2.2.2.2.2.2.2.2.2.1) i).toInt ∧ ((r.2.2.2.2.2.2.2.2.2.2.2.2.2.2.2.2.2.2.2.2.2.2.1) i).toInt ≤ 3) ∧ (∀ i, 0 ≤ ((r.2.2.2.2.2.2.2.2.2.2.2.2.2.2.2.2.2.2.2.2.2.2.2.1) i).toInt ∧ ((r.2.2.2.2.2.2.2.2.2.2.2.2.2.2.2.2.2.2.2.2.2.2.2.1) i).toInt ≤ 4) ∧ (∀ i, 0 ≤ ((r.2.2.2.2.2.2.2.2.2.2.2.2.2.2.2.2.2.2.2.2.2.2.2.2.1) i).toInt ∧ ((r.2.2.2.2.2.2.2.2.2.2.2.2.2.2.2.2.2.2.2.2.2.2.2.2.1) i).toInt ≤ 3) ∧ (ST (r.2.2.2.2.2.2.2.2.2.2.2.2.2.2.2.2.2.2.2.2.2.2.2.2.2.1)) ∧ True) := by
  intro a1 a3 t_net_size t_net_loads t_net_near t_net_ties t_bags_size t_bags_masks t_bags_ups t_law_size t_law_factors t_law_pairFactors t_law_barred t_law_forbidden t_plan_size t_plan_knots t_plan_others t_plan_otherCount t_plan_scopes t_plan_users t_plan_feeders t_plan_feederCount t_plan_places t_plan_bagMates t_plan_going_left t_plan_going_newEnds t_plan_going_near t_tally_sum t_tally_many t_tally_sign t_tally_changed t_tally_pickedSum t_tally_aim t_tally_before t_tally_open t_tally_openStates t_tally_openCount t_tally_picks t_tally_strides t_tally_sums t_tally_counts h_a3 h_t_net_size h_t_bags_size h_t_law_size h_t_plan_size h_t_plan_knots h_t_plan_others h_t_plan_otherCount h_t_plan_feeders h_t_plan_feederCount h_t_plan_places h_t_plan_going_left h_t_tally_openStates h_t_tally_openCount h_t_tally_picks h_t_tally_strides
  unfold J_X8_drawn_33
  refine sat_cal (s_X7_stateInWay (0 : Int32) a1 a3 t_tally_sum t_tally_many t_tally_sign t_tally_changed t_tally_pickedSum t_tally_aim t_tally_before t_tally_open t_net_size t_net_loads t_net_near t_net_ties t_law_size t_law_factors t_law_pairFactors t_law_barred t_plan_size t_plan_knots t_plan_others t_plan_otherCount t_plan_scopes t_plan_users t_plan_feeders t_plan_feederCount t_tally_openStates t_tally_openCount t_tally_picks t_tally_strides t_tally_sums t_tally_counts (by omega) (by omega) (by omega) (by omega) h_t_plan_knots h_t_plan_others h_t_plan_otherCount h_t_plan_feeders h_t_plan_feederCount h_t_tally_openStates h_t_tally_openCount h_t_tally_picks h_t_tally_strides) fun u4 hu4 => ?_
  obtain ⟨hu4_9, hu4_10, hu4_11, hu4_12, -⟩ := hu4
  exact sat_some ⟨(by (try dsimp only); omega), h_t_plan_knots, h_t_plan_others, h_t_plan_otherCount, h_t_plan_feeders, h_t_plan_feederCount, (fun i => by have q0 := h_t_plan_places i; (try dsimp only); omega), (by (try dsimp only); omega), hu4_9, hu4_10, hu4_11, hu4_12, trivial⟩
theorem s_X8_drawn (a1 : Int64) (a3 : Int32) (t_net_size : Int32) (t_net_loads : Nat → Int32) (t_net_near : Nat → Int32) (t_net_ties : Nat → Int32) (t_bags_size : Int32) (t_bags_masks : Nat → Int32) (t_bags_ups : Nat → Int32) (t_law_size : Int32) (t_law_factors : Nat → Int32) (t_law_pairFactors : Nat → Int32) (t_law_barred : Nat → Int32) (t_law_forbidden : Nat → Int32) (t_plan_size : Int32) (t_plan_knots : Nat → Int32) (t_plan_others : Nat → Int32) (t_plan_otherCount : Nat → Int32) (t_plan_scopes : Nat → Int32) (t_plan_users : Nat → Int32) (t_plan_feeders : Nat → Int32) (t_plan_feederCount : Nat → Int32) (t_plan_places : Nat → Int32) (t_plan_bagMates : Nat → Int32) (t_plan_going_left : Int32) (t_plan_going_newEnds : Int32) (t_plan_going_near : Nat → Int32) (t_tally_sum : Int32) (t_tally_many : Int32) (t_tally_sign : Int32) (t_tally_changed : Int32) (t_tally_pickedSum : Int32) (t_tally_aim : Int32) (t_tally_before : Int64) (t_tally_open : Nat → Int32) (t_tally_openStates : Nat → Int32) (t_tally_openCount : Nat → Int32) (t_tally_picks : Nat → Int32) (t_tally_strides : Nat → Int32) (t_tally_sums : Nat → Int32) (t_tally_counts : Nat → Int32) (h_t_net_size : 0 ≤ t_net_size.toInt ∧ t_net_size.toInt ≤ 14) (h_t_bags_size : 0 ≤ t_bags_size.toInt ∧ t_bags_size.toInt ≤ 14) (h_t_law_size : 1 ≤ t_law_size.toInt ∧ t_law_size.toInt ≤ 4) (h_t_plan_size : 0 ≤ t_plan_size.toInt ∧ t_plan_size.toInt ≤ 14) (h_t_plan_knots : ∀ i, 0 ≤ (t_plan_knots i).toInt ∧ (t_plan_knots i).toInt ≤ 13) (h_t_plan_others : ∀ i, 0 ≤ (t_plan_others i).toInt ∧ (t_plan_others i).toInt ≤ 13) (h_t_plan_otherCount : ∀ i, 0 ≤ (t_plan_otherCount i).toInt ∧ (t_plan_otherCount i).toInt ≤ 4) (h_t_plan_feeders : ∀ i, 0 ≤ (t_plan_feeders i).toInt ∧ (t_plan_feeders i).toInt ≤ 13) (h_t_plan_feederCount : ∀ i, 0 ≤ (t_plan_feederCount i).toInt ∧ (t_plan_feederCount i).toInt ≤ 14) (h_t_plan_places : ∀ i, 0 ≤ (t_plan_places i).toInt ∧ ((t_plan_places i).toInt = 0 ∨ (t_plan_places i).toInt < t_net_size.toInt)) (h_t_plan_going_left : 0 ≤ t_plan_going_left.toInt ∧ t_plan_going_left.toInt ≤ 16383) (h_t_tally_openStates : ∀ i, 0 ≤ (t_tally_openStates i).toInt ∧ (t_tally_openStates i).toInt ≤ 3) (h_t_tally_openCount : ∀ i, 0 ≤ (t_tally_openCount i).toInt ∧ (t_tally_openCount i).toInt ≤ 4) (h_t_tally_picks : ∀ i, 0 ≤ (t_tally_picks i).toInt ∧ (t_tally_picks i).toInt ≤ 3) (h_t_tally_strides : ST t_tally_strides) : Sat (f_X8_drawn a1 a3 t_net_size t_net_loads t_net_near t_net_ties t_bags_size t_bags_masks t_bags_ups t_law_size t_law_factors t_law_pairFactors t_law_barred t_law_forbidden t_plan_size t_plan_knots t_plan_others t_plan_otherCount t_plan_scopes t_plan_users t_plan_feeders t_plan_feederCount t_plan_places t_plan_bagMates t_plan_going_left t_plan_going_newEnds t_plan_going_near t_tally_sum t_tally_many t_tally_sign t_tally_changed t_tally_pickedSum t_tally_aim t_tally_before t_tally_open t_tally_openStates t_tally_openCount t_tally_picks t_tally_strides t_tally_sums t_tally_counts) (fun r => (0 ≤ (r.2.1).toInt ∧ (r.2.1).toInt ≤ 14) ∧ (∀ i, 0 ≤ ((r.2.2.1) i).toInt ∧ ((r.2.2.1) i).toInt ≤ 13) ∧ (∀ i, 0 ≤ ((r.2.2.2.1) i).toInt ∧ ((r.2.2.2.1) i).toInt ≤ 13) ∧ (∀ i, 0 ≤ ((r.2.2.2.2.1) i).toInt ∧ ((r.2.2.2.2.1) i).toInt ≤ 4) ∧ (∀ i, 0 ≤ ((r.2.2.2.2.2.2.2.1) i).toInt ∧ ((r.2.2.2.2.2.2.2.1) i).toInt ≤ 13) ∧ (∀ i, 0 ≤ ((r.2.2.2.2.2.2.2.2.1) i).toInt ∧ ((r.2.2.2.2.2.2.2.2.1) i).toInt ≤ 14) ∧ (∀ i, 0 ≤ ((r.2.2.2.2.2.2.2.2.2.1) i).toInt ∧ (((r.2.2.2.2.2.2.2.2.2.1) i).toInt = 0 ∨ ((r.2.2.2.2.2.2.2.2.2.1) i).toInt < t_net_size.toInt)) ∧ (0 ≤ (r.2.2.2.2.2.2.2.2.2.2.2.1).toInt ∧ (r.2.2.2.2.2.2.2.2.2.2.2.1).toInt ≤ 16383) ∧ (∀ i, 0 ≤ ((r.2.2.2.2.2.2.2.2.2.2.2.2.2.2.2.2.2.2.2.2.2.2.1) i).toInt ∧ ((r.2.2.2.2.2.2.2.2.2.2.2.2.2.2.2.2.2.2.2.2.2.2.1) i).toInt ≤ 3) ∧ (∀ i, 0 ≤ ((r.2.2.2.2.2.2.2.2.2.2.2.2.2.2.2.2.2.2.2.2.2.2.2.1) i).toInt ∧ ((r.2.2.2.2.2.2.2.2.2.2.2.2.2.2.2.2.2.2.2.2.2.2.2.1) i).toInt ≤ 4) ∧ (∀ i, 0 ≤ ((r.2.2.2.2.2.2.2.2.2.2.2.2.2.2.2.2.2.2.2.2.2.2.2.2.1) i).toInt ∧ ((r.2.2.2.2.2.2.2.2.2.2.2.2.2.2.2.2.2.2.2.2.2.2.2.2.1) i).toInt ≤ 3) ∧ (ST (r.2.2.2.2.2.2.2.2.2.2.2.2.2.2.2.2.2.2.2.2.2.2.2.2.2.1)) ∧ True) := by
  unfold f_X8_drawn
  have l0 : (0 : Int32).toInt = 0 := rfl
  refine sat_ite (fun hc1 => ?_) (fun hc1 => ?_)
  · exact sat_some ⟨(by (try dsimp only); omega), h_t_plan_knots, h_t_plan_others, h_t_plan_otherCount, h_t_plan_feeders, h_t_plan_feederCount, (fun i => by have q0 := h_t_plan_places i; (try dsimp only); omega), (by (try dsimp only); omega), h_t_tally_openStates, h_t_tally_openCount, h_t_tally_picks, h_t_tally_strides, trivial⟩
  · refine sat_cal (s_X4_has a3 t_net_size (by omega)) fun u1 hu1 => ?_
    obtain ⟨hu1_0, -⟩ := hu1
    refine sat_ite (fun hc2 => ?_) (fun hc2 => ?_)
    · have thc2 := congrArg Int32.toInt hc2
      exact sat_some ⟨(by (try dsimp only); omega), h_t_plan_knots, h_t_plan_others, h_t_plan_otherCount, h_t_plan_feeders, h_t_plan_feederCount, (fun i => by have q0 := h_t_plan_places i; (try dsimp only); omega), (by (try dsimp only); omega), h_t_tally_openStates, h_t_tally_openCount, h_t_tally_picks, h_t_tally_strides, trivial⟩
    · have thc2 := neq hc2
      refine sat_cal (s_X8_canAsk t_net_size t_net_near t_bags_size t_bags_masks t_bags_ups (by omega) (by omega)) fun u2 hu2 => ?_
      obtain ⟨hu2_0, -⟩ := hu2
      refine sat_ite (fun hc3 => ?_) (fun hc3 => ?_)
      · have thc3 := congrArg Int32.toInt hc3
        exact sat_some ⟨(by (try dsimp only); omega), h_t_plan_knots, h_t_plan_others, h_t_plan_otherCount, h_t_plan_feeders, h_t_plan_feederCount, (fun i => by have q0 := h_t_plan_places i; (try dsimp only); omega), (by (try dsimp only); omega), h_t_tally_openStates, h_t_tally_openCount, h_t_tally_picks, h_t_tally_strides, trivial⟩
      · have thc3 := neq hc3
        refine sat_cal (s_X8_freshTally t_net_size t_net_near t_bags_size t_bags_masks t_law_size t_law_forbidden t_plan_size t_plan_knots t_plan_others t_plan_otherCount t_plan_scopes t_plan_users t_plan_feeders t_plan_feederCount t_plan_places t_plan_bagMates t_plan_going_left t_plan_going_newEnds t_plan_going_near t_tally_open (by omega) (by omega) (by omega) (by omega) h_t_plan_knots h_t_plan_others h_t_plan_otherCount h_t_plan_feeders h_t_plan_feederCount (fun i => by have q0 := h_t_plan_places i; (try dsimp only); omega) (by omega)) fun u3 hu3 => ?_
        obtain ⟨hu3_0, hu3_1, hu3_2, hu3_3, hu3_6, hu3_7, hu3_8, hu3_10, -⟩ := hu3
        exact j_X8_drawn_33 a1 a3 t_net_size t_net_loads t_net_near t_net_ties t_bags_size t_bags_masks t_bags_ups t_law_size t_law_factors t_law_pairFactors t_law_barred t_law_forbidden u3.1 u3.2.1 u3.2.2.1 u3.2.2.2.1 u3.2.2.2.2.1 u3.2.2.2.2.2.1 u3.2.2.2.2.2.2.1 u3.2.2.2.2.2.2.2.1 u3.2.2.2.2.2.2.2.2.1 u3.2.2.2.2.2.2.2.2.2.1 u3.2.2.2.2.2.2.2.2.2.2.1 u3.2.2.2.2.2.2.2.2.2.2.2.1 u3.2.2.2.2.2.2.2.2.2.2.2.2.1 t_tally_sum t_tally_many t_tally_sign t_tally_changed t_tally_pickedSum t_tally_aim t_tally_before u3.2.2.2.2.2.2.2.2.2.2.2.2.2 t_tally_openStates t_tally_openCount t_tally_picks t_tally_strides t_tally_sums t_tally_counts (by omega) (by omega) (by omega) (by omega) (by omega) hu3_1 hu3_2 hu3_3 hu3_6 hu3_7 (fun i => by have q0 := hu3_8 i; (try dsimp only); omega) (by omega) h_t_tally_openStates h_t_tally_openCount h_t_tally_picks h_t_tally_strides
theorem j_X8_share_37  : ∀ (a1 : Int32) (a2 : Int32) (t_net_size : Int32) (t_net_loads : Nat → Int32) (t_net_near : Nat → Int32) (t_net_ties : Nat → Int32) (t_bags_size : Int32) (t_bags_masks : Nat → Int32) (t_bags_ups : Nat → Int32) (t_law_size : Int32) (t_law_factors : Nat → Int32) (t_law_pairFactors : Nat → Int32) (t_law_barred : Nat → Int32) (t_law_forbidden : Nat → Int32) (t_plan_size : Int32) (t_plan_knots : Nat → Int32) (t_plan_others : Nat → Int32) (t_plan_otherCount : Nat → Int32) (t_plan_scopes : Nat → Int32) (t_plan_users : Nat → Int32) (t_plan_feeders : Nat → Int32) (t_plan_feederCount : Nat → Int32) (t_plan_places : Nat → Int32) (t_plan_bagMates : Nat → Int32) (t_plan_going_left : Int32) (t_plan_going_newEnds : Int32) (t_plan_going_near : Nat → Int32) (t_tally_sum : Int32) (t_tally_many : Int32) (t_tally_sign : Int32) (t_tally_changed : Int32) (t_tally_pickedSum : Int32) (t_tally_open : Nat → Int32) (t_tally_openStates : Nat → Int32) (t_tally_openCount : Nat → Int32) (t_tally_picks : Nat → Int32) (t_tally_strides : Nat → Int32) (t_tally_sums : Nat → Int32) (t_tally_counts : Nat → Int32), (0 ≤ a1.toInt ∧ a1.toInt ≤ 13) → (0 ≤ t_net_size.toInt ∧ t_net_size.toInt ≤ 14) → (0 ≤ t_bags_size.toInt ∧ t_bags_size.toInt ≤ 14) → (1 ≤ t_law_size.toInt ∧ t_law_size.toInt ≤ 4) → (0 ≤ t_plan_size.toInt ∧ t_plan_size.toInt ≤ 14) → (∀ i, 0 ≤ (t_plan_knots i).toInt ∧ (t_plan_knots i).toInt ≤ 13) → (∀ i, 0 ≤ (t_plan_others i).toInt ∧ (t_plan_others i).toInt ≤ 13) → (∀ i, 0 ≤ (t_plan_otherCount i).toInt ∧ (t_plan_otherCount i).toInt ≤ 4) → (∀ i, 0 ≤ (t_plan_feeders i).toInt ∧ (t_plan_feeders i).toInt ≤ 13) → (∀ i, 0 ≤ (t_plan_feederCount i).toInt ∧ (t_plan_feederCount i).toInt ≤ 14) → (∀ i, 0 ≤ (t_plan_places i).toInt ∧ ((t_plan_places i).toInt = 0 ∨ (t_plan_places i).toInt < t_net_size.toInt)) → (0 ≤ t_plan_going_left.toInt ∧ t_plan_going_left.toInt ≤ 16383) → (∀ i, 0 ≤ (t_tally_openStates i).toInt ∧ (t_tally_openStates i).toInt ≤ 3) → (∀ i, 0 ≤ (t_tally_openCount i).toInt ∧ (t_tally_openCount i).toInt ≤ 4) → (∀ i, 0 ≤ (t_tally_picks i).toInt ∧ (t_tally_picks i).toInt ≤ 3) → (ST t_tally_strides) → Sat (J_X8_share_37 a1 a2 t_net_size t_net_loads t_net_near t_net_ties t_bags_size t_bags_masks t_bags_ups t_law_size t_law_factors t_law_pairFactors t_law_barred t_law_forbidden t_plan_size t_plan_knots t_plan_others t_plan_otherCount t_plan_scopes t_plan_users t_plan_feeders t_plan_feederCount t_plan_places t_plan_bagMates t_plan_going_left t_plan_going_newEnds t_plan_going_near t_tally_sum t_tally_many t_tally_sign t_tally_changed t_tally_pickedSum t_tally_open t_tally_openStates t_tally_openCount t_tally_picks t_tally_strides t_tally_sums t_tally_counts) (fun r => (0 ≤ (r.2.1).toInt ∧ (r.2.1).toInt ≤ 14) ∧ (∀ i, 0 ≤ ((r.2.2.1) i).toInt ∧ ((r.2.2.1) i).toInt ≤ 13) ∧ (∀ i, 0 ≤ ((r.2.2.2.1) i).toInt ∧ ((r.2.2.2.1) i).toInt ≤ 13) ∧ (∀ i, 0 ≤ ((r.2.2.2.2.1) i).toInt ∧ ((r.2.2.2.2.1) i).toInt ≤ 4) ∧ (∀ i, 0 ≤ ((r.2.2.2.2.2.2.2.1) i).toInt ∧ ((r.2.2.2.2.2.2.2.1) i).toInt ≤ 13) ∧ (∀ i, 0 ≤ ((r.2.2.2.2.2.2.2.2.1) i).toInt ∧ ((r.2.2.2.2.2.2.2.2.1) i).toInt ≤ 14) ∧ (∀ i, 0 ≤ ((r.2.2.2.2.2.2.2.2.2.1) i).toInt ∧ (((r.2.2.2.2.2.2.2.2.2.1) i).toInt = 0 ∨ ((r.2.2.2.2.2.2.2.2.2.1) i).toInt < t_net_size.toInt)) ∧ (0 ≤ (r.2.2.2.2.2.2.2.2.2.2.2.1).toInt ∧ (r.2.2.2.2.2.2.2.2.2.2.2.1).toInt ≤ 16383) ∧ (∀ i, 0 ≤ ((r.2.2.2.2.2.2.2.2.2.2.2.2.2.2.2.2.2.2.2.2.1) i).toInt ∧ ((r.2.2.2.2.2.2.2.2.2.2.2.2.2.2.2.2.2.2.2.2.1) i).toInt ≤ 3) ∧ (∀ i, 0 ≤ ((r.2.2.2.2.2.2.2.2.2.2.2.2.2.2.2.2.2.2.2.2.2.1) i).toInt ∧ ((r.2.2.2.2.2.2.2.2.2.2.2.2.2.2.2.2.2.2.2.2.2.1) i).toInt ≤ 4) ∧ (∀ i, 0 ≤ ((r.2.2.2.2.2.2.2.2.2.2.2.2.2.2.2.2.2.2.2.2.2.2.1) i).toInt ∧ ((r.2.2.2.2.2.2.2.2.2.2.2.2.2.2.2.2.2.2.2.2.2.2.1) i).toInt ≤ 3) ∧ (ST (r.2.2.2.2.2.2.2.2.2.2.2.2.2.2.2.2.2.2.2.2.2.2.2.1)) ∧ True) := by
  intro a1 a2 t_net_size t_net_loads t_net_near t_net_ties t_bags_size t_bags_masks t_bags_ups t_law_size t_law_factors t_law_pairFactors t_law_barred t_law_forbidden t_plan_size t_plan_knots t_plan_others t_plan_otherCount t_plan_scopes t_plan_users t_plan_feeders t_plan_feederCount t_plan_places t_plan_bagMates t_plan_going_left t_plan_going_newEnds t_plan_going_near t_tally_sum t_tally_many t_tally_sign t_tally_changed t_tally_pickedSum t_tally_open t_tally_openStates t_tally_openCount t_tally_picks t_tally_strides t_tally_sums t_tally_counts h_a1 h_t_net_size h_t_bags_size h_t_law_size h_t_plan_size h_t_plan_knots h_t_plan_others h_t_plan_otherCount h_t_plan_feeders h_t_plan_feederCount h_t_plan_places h_t_plan_going_left h_t_tally_openStates h_t_tally_openCount h_t_tally_picks h_t_tally_strides
  unfold J_X8_share_37
  refine sat_ldA (okI_of (by omega)) fun v5 e1 => ?_
  refine sat_stI (okI_of (by omega)) fun t_tally_open_6 e2 => ?_
  refine sat_cal (s_X7_sweep (0 : Int32) t_tally_sum t_tally_many t_tally_sign t_tally_changed t_tally_pickedSum t_tally_open_6 t_net_size t_net_loads t_net_near t_net_ties t_law_size t_law_factors t_law_pairFactors t_law_barred t_plan_size t_plan_knots t_plan_others t_plan_otherCount t_plan_scopes t_plan_users t_plan_feeders t_plan_feederCount t_tally_openStates t_tally_openCount t_tally_picks t_tally_strides t_tally_sums t_tally_counts (by omega) (by omega) (by omega) h_t_plan_knots h_t_plan_others h_t_plan_otherCount h_t_plan_feeders h_t_plan_feederCount h_t_tally_openStates h_t_tally_openCount h_t_tally_picks h_t_tally_strides) fun u7 hu7 => ?_
  obtain ⟨hu7_5, hu7_6, hu7_7, hu7_8, -⟩ := hu7
  exact sat_some ⟨(by (try dsimp only); omega), h_t_plan_knots, h_t_plan_others, h_t_plan_otherCount, h_t_plan_feeders, h_t_plan_feederCount, (fun i => by have q0 := h_t_plan_places i; (try dsimp only); omega), (by (try dsimp only); omega), hu7_5, hu7_6, hu7_7, hu7_8, trivial⟩
theorem s_X8_share (a1 : Int32) (a2 : Int32) (t_net_size : Int32) (t_net_loads : Nat → Int32) (t_net_near : Nat → Int32) (t_net_ties : Nat → Int32) (t_bags_size : Int32) (t_bags_masks : Nat → Int32) (t_bags_ups : Nat → Int32) (t_law_size : Int32) (t_law_factors : Nat → Int32) (t_law_pairFactors : Nat → Int32) (t_law_barred : Nat → Int32) (t_law_forbidden : Nat → Int32) (t_plan_size : Int32) (t_plan_knots : Nat → Int32) (t_plan_others : Nat → Int32) (t_plan_otherCount : Nat → Int32) (t_plan_scopes : Nat → Int32) (t_plan_users : Nat → Int32) (t_plan_feeders : Nat → Int32) (t_plan_feederCount : Nat → Int32) (t_plan_places : Nat → Int32) (t_plan_bagMates : Nat → Int32) (t_plan_going_left : Int32) (t_plan_going_newEnds : Int32) (t_plan_going_near : Nat → Int32) (t_tally_sum : Int32) (t_tally_many : Int32) (t_tally_sign : Int32) (t_tally_changed : Int32) (t_tally_pickedSum : Int32) (t_tally_open : Nat → Int32) (t_tally_openStates : Nat → Int32) (t_tally_openCount : Nat → Int32) (t_tally_picks : Nat → Int32) (t_tally_strides : Nat → Int32) (t_tally_sums : Nat → Int32) (t_tally_counts : Nat → Int32) (h_t_net_size : 0 ≤ t_net_size.toInt ∧ t_net_size.toInt ≤ 14) (h_t_bags_size : 0 ≤ t_bags_size.toInt ∧ t_bags_size.toInt ≤ 14) (h_t_law_size : 1 ≤ t_law_size.toInt ∧ t_law_size.toInt ≤ 4) (h_t_plan_size : 0 ≤ t_plan_size.toInt ∧ t_plan_size.toInt ≤ 14) (h_t_plan_knots : ∀ i, 0 ≤ (t_plan_knots i).toInt ∧ (t_plan_knots i).toInt ≤ 13) (h_t_plan_others : ∀ i, 0 ≤ (t_plan_others i).toInt ∧ (t_plan_others i).toInt ≤ 13) (h_t_plan_otherCount : ∀ i, 0 ≤ (t_plan_otherCount i).toInt ∧ (t_plan_otherCount i).toInt ≤ 4) (h_t_plan_feeders : ∀ i, 0 ≤ (t_plan_feeders i).toInt ∧ (t_plan_feeders i).toInt ≤ 13) (h_t_plan_feederCount : ∀ i, 0 ≤ (t_plan_feederCount i).toInt ∧ (t_plan_feederCount i).toInt ≤ 14) (h_t_plan_places : ∀ i, 0 ≤ (t_plan_places i).toInt ∧ ((t_plan_places i).toInt = 0 ∨ (t_plan_places i).toInt < t_net_size.toInt)) (h_t_plan_going_left : 0 ≤ t_plan_going_left.toInt ∧ t_plan_going_left.toInt ≤ 16383) (h_t_tally_openStates : ∀ i, 0 ≤ (t_tally_openStates i).toInt ∧ (t_tally_openStates i).toInt ≤ 3) (h_t_tally_openCount : ∀ i, 0 ≤ (t_tally_openCount i).toInt ∧ (t_tally_openCount i).toInt ≤ 4) (h_t_tally_picks : ∀ i, 0 ≤ (t_tally_picks i).toInt ∧ (t_tally_picks i).toInt ≤ 3) (h_t_tally_strides : ST t_tally_strides) : Sat (f_X8_share a1 a2 t_net_size t_net_loads t_net_near t_net_ties t_bags_size t_bags_masks t_bags_ups t_law_size t_law_factors t_law_pairFactors t_law_barred t_law_forbidden t_plan_size t_plan_knots t_plan_others t_plan_otherCount t_plan_scopes t_plan_users t_plan_feeders t_plan_feederCount t_plan_places t_plan_bagMates t_plan_going_left t_plan_going_newEnds t_plan_going_near t_tally_sum t_tally_many t_tally_sign t_tally_changed t_tally_pickedSum t_tally_open t_tally_openStates t_tally_openCount t_tally_picks t_tally_strides t_tally_sums t_tally_counts) (fun r => (0 ≤ (r.2.1).toInt ∧ (r.2.1).toInt ≤ 14) ∧ (∀ i, 0 ≤ ((r.2.2.1) i).toInt ∧ ((r.2.2.1) i).toInt ≤ 13) ∧ (∀ i, 0 ≤ ((r.2.2.2.1) i).toInt ∧ ((r.2.2.2.1) i).toInt ≤ 13) ∧ (∀ i, 0 ≤ ((r.2.2.2.2.1) i).toInt ∧ ((r.2.2.2.2.1) i).toInt ≤ 4) ∧ (∀ i, 0 ≤ ((r.2.2.2.2.2.2.2.1) i).toInt ∧ ((r.2.2.2.2.2.2.2.1) i).toInt ≤ 13) ∧ (∀ i, 0 ≤ ((r.2.2.2.2.2.2.2.2.1) i).toInt ∧ ((r.2.2.2.2.2.2.2.2.1) i).toInt ≤ 14) ∧ (∀ i, 0 ≤ ((r.2.2.2.2.2.2.2.2.2.1) i).toInt ∧ (((r.2.2.2.2.2.2.2.2.2.1) i).toInt = 0 ∨ ((r.2.2.2.2.2.2.2.2.2.1) i).toInt < t_net_size.toInt)) ∧ (0 ≤ (r.2.2.2.2.2.2.2.2.2.2.2.1).toInt ∧ (r.2.2.2.2.2.2.2.2.2.2.2.1).toInt ≤ 16383) ∧ (∀ i, 0 ≤ ((r.2.2.2.2.2.2.2.2.2.2.2.2.2.2.2.2.2.2.2.2.1) i).toInt ∧ ((r.2.2.2.2.2.2.2.2.2.2.2.2.2.2.2.2.2.2.2.2.1) i).toInt ≤ 3) ∧ (∀ i, 0 ≤ ((r.2.2.2.2.2.2.2.2.2.2.2.2.2.2.2.2.2.2.2.2.2.1) i).toInt ∧ ((r.2.2.2.2.2.2.2.2.2.2.2.2.2.2.2.2.2.2.2.2.2.1) i).toInt ≤ 4) ∧ (∀ i, 0 ≤ ((r.2.2.2.2.2.2.2.2.2.2.2.2.2.2.2.2.2.2.2.2.2.2.1) i).toInt ∧ ((r.2.2.2.2.2.2.2.2.2.2.2.2.2.2.2.2.2.2.2.2.2.2.1) i).toInt ≤ 3) ∧ (ST (r.2.2.2.2.2.2.2.2.2.2.2.2.2.2.2.2.2.2.2.2.2.2.2.1)) ∧ True) := by
  unfold f_X8_share
  have l0 : (0 : Int32).toInt = 0 := rfl
  refine sat_cal (s_X8_canAsk t_net_size t_net_near t_bags_size t_bags_masks t_bags_ups (by omega) (by omega)) fun u1 hu1 => ?_
  obtain ⟨hu1_0, -⟩ := hu1
  refine sat_ite (fun hc1 => ?_) (fun hc1 => ?_)
  · have thc1 := congrArg Int32.toInt hc1
    exact sat_some ⟨(by (try dsimp only); omega), h_t_plan_knots, h_t_plan_others, h_t_plan_otherCount, h_t_plan_feeders, h_t_plan_feederCount, (fun i => by have q0 := h_t_plan_places i; (try dsimp only); omega), (by (try dsimp only); omega), h_t_tally_openStates, h_t_tally_openCount, h_t_tally_picks, h_t_tally_strides, trivial⟩
  · have thc1 := neq hc1
    refine sat_cal (s_X4_has a1 t_net_size (by omega)) fun u2 hu2 => ?_
    obtain ⟨hu2_0, -⟩ := hu2
    refine sat_ite (fun hc2 => ?_) (fun hc2 => ?_)
    · have thc2 := congrArg Int32.toInt hc2
      exact sat_some ⟨(by (try dsimp only); omega), h_t_plan_knots, h_t_plan_others, h_t_plan_otherCount, h_t_plan_feeders, h_t_plan_feederCount, (fun i => by have q0 := h_t_plan_places i; (try dsimp only); omega), (by (try dsimp only); omega), h_t_tally_openStates, h_t_tally_openCount, h_t_tally_picks, h_t_tally_strides, trivial⟩
    · have thc2 := neq hc2
      refine sat_cal (s_X3_has a2 t_law_size (by omega)) fun u3 hu3 => ?_
      obtain ⟨hu3_0, -⟩ := hu3
      refine sat_ite (fun hc3 => ?_) (fun hc3 => ?_)
      · have thc3 := congrArg Int32.toInt hc3
        exact sat_some ⟨(by (try dsimp only); omega), h_t_plan_knots, h_t_plan_others, h_t_plan_otherCount, h_t_plan_feeders, h_t_plan_feederCount, (fun i => by have q0 := h_t_plan_places i; (try dsimp only); omega), (by (try dsimp only); omega), h_t_tally_openStates, h_t_tally_openCount, h_t_tally_picks, h_t_tally_strides, trivial⟩
      · have thc3 := neq hc3
        refine sat_cal (s_X8_freshTally t_net_size t_net_near t_bags_size t_bags_masks t_law_size t_law_forbidden t_plan_size t_plan_knots t_plan_others t_plan_otherCount t_plan_scopes t_plan_users t_plan_feeders t_plan_feederCount t_plan_places t_plan_bagMates t_plan_going_left t_plan_going_newEnds t_plan_going_near t_tally_open (by omega) (by omega) (by omega) (by omega) h_t_plan_knots h_t_plan_others h_t_plan_otherCount h_t_plan_feeders h_t_plan_feederCount (fun i => by have q0 := h_t_plan_places i; (try dsimp only); omega) (by omega)) fun u4 hu4 => ?_
        obtain ⟨hu4_0, hu4_1, hu4_2, hu4_3, hu4_6, hu4_7, hu4_8, hu4_10, -⟩ := hu4
        exact j_X8_share_37 a1 a2 t_net_size t_net_loads t_net_near t_net_ties t_bags_size t_bags_masks t_bags_ups t_law_size t_law_factors t_law_pairFactors t_law_barred t_law_forbidden u4.1 u4.2.1 u4.2.2.1 u4.2.2.2.1 u4.2.2.2.2.1 u4.2.2.2.2.2.1 u4.2.2.2.2.2.2.1 u4.2.2.2.2.2.2.2.1 u4.2.2.2.2.2.2.2.2.1 u4.2.2.2.2.2.2.2.2.2.1 u4.2.2.2.2.2.2.2.2.2.2.1 u4.2.2.2.2.2.2.2.2.2.2.2.1 u4.2.2.2.2.2.2.2.2.2.2.2.2.1 t_tally_sum t_tally_many t_tally_sign t_tally_changed t_tally_pickedSum u4.2.2.2.2.2.2.2.2.2.2.2.2.2 t_tally_openStates t_tally_openCount t_tally_picks t_tally_strides t_tally_sums t_tally_counts (by omega) (by omega) (by omega) (by omega) (by omega) hu4_1 hu4_2 hu4_3 hu4_6 hu4_7 (fun i => by have q0 := hu4_8 i; (try dsimp only); omega) (by omega) h_t_tally_openStates h_t_tally_openCount h_t_tally_picks h_t_tally_strides
