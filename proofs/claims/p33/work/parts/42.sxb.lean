theorem l_X5_mostJoined_7 (a1 : Int32) (t_size : Int32) (t_bagMates : Nat → Int32) (h_t_size : 0 ≤ t_size.toInt ∧ t_size.toInt ≤ 14) : ∀ (n : Nat) (x2 : Int32) (x3 : Int32) (x4 : Int32), (0 ≤ x2.toInt ∧ x2.toInt ≤ 13) → (0 ≤ x4.toInt ∧ x4.toInt ≤ 14) → 14 - x4.toInt < (n : Int) → Sat (L_X5_mostJoined_7 a1 t_size t_bagMates n x2 x3 x4) (fun r => (0 ≤ r.toInt ∧ r.toInt ≤ 13) ∧ True) := by
  intro n
  induction n with
  | zero => intro x2 x3 x4 h_x2 h_x4 hM; exfalso; omega
  | succ n ih =>
    intro x2 x3 x4 h_x2 h_x4 hM
    rw [L_X5_mostJoined_7]
    have l0 : (0 : Int32).toInt = 0 := rfl
    have l1 : (1 : Int32).toInt = 1 := rfl
    refine sat_ite (fun hc1 => ?_) (fun hc1 => ?_)
    · have thc1 := ple hc1
      exact sat_some ⟨(by omega), trivial⟩
    · have thc1 := nle hc1
      refine sat_cal (s_X8_hasBit a1 x4) fun u4 hu4 => ?_
      obtain ⟨hu4_0, -⟩ := hu4
      refine sat_ite (fun hc2 => ?_) (fun hc2 => ?_)
      · have thc2 := congrArg Int32.toInt hc2
        refine sat_ldA (okI_of (by omega)) fun v5 e3 => ?_
        refine sat_cal (s_J6_bitCount_0f7a4 (v5 &&& a1)) fun u6 hu6 => ?_
        obtain ⟨hu6_0, -⟩ := hu6
        refine sat_bnd fun x5_7 e4 => ?_
        have te4 := congrArg Int32.toInt e4
        refine sat_ite (fun hc5 => ?_) (fun hc5 => ?_)
        · have thc5 := ple hc5
          refine sat_bnd fun x4_8 e6 => ?_
          try (have k7 : (x4 + (1 : Int32)).toInt = x4.toInt + (1 : Int32).toInt := ti_add (by omega) (by omega))
          have te6 := congrArg Int32.toInt e6
          exact ih x2 x3 x4_8 (by omega) (by omega) (by omega)
        · have thc5 := nle hc5
          refine sat_bnd fun x2_9 e8 => ?_
          have te8 := congrArg Int32.toInt e8
          refine sat_bnd fun x3_10 e9 => ?_
          have te9 := congrArg Int32.toInt e9
          refine sat_bnd fun x4_11 e10 => ?_
          try (have k11 : (x4 + (1 : Int32)).toInt = x4.toInt + (1 : Int32).toInt := ti_add (by omega) (by omega))
          have te10 := congrArg Int32.toInt e10
          exact ih x2_9 x3_10 x4_11 (by omega) (by omega) (by omega)
      · have thc2 := neq hc2
        refine sat_bnd fun x4_12 e12 => ?_
        try (have k13 : (x4 + (1 : Int32)).toInt = x4.toInt + (1 : Int32).toInt := ti_add (by omega) (by omega))
        have te12 := congrArg Int32.toInt e12
        exact ih x2 x3 x4_12 (by omega) (by omega) (by omega)
theorem s_X5_mostJoined (a1 : Int32) (t_size : Int32) (t_bagMates : Nat → Int32) (h_t_size : 0 ≤ t_size.toInt ∧ t_size.toInt ≤ 14) : Sat (f_X5_mostJoined a1 t_size t_bagMates) (fun r => (0 ≤ r.toInt ∧ r.toInt ≤ 13) ∧ True) := by
  unfold f_X5_mostJoined
  have l0 : (0 : Int32).toInt = 0 := rfl
  have lm1 : (-1 : Int32).toInt = -1 := rfl
  refine sat_bnd fun x2_1 e1 => ?_
  have te1 := congrArg Int32.toInt e1
  refine sat_bnd fun x3_2 e2 => ?_
  have te2 := congrArg Int32.toInt e2
  refine sat_bnd fun x4_3 e3 => ?_
  have te3 := congrArg Int32.toInt e3
  have hNN := NN_i
  exact l_X5_mostJoined_7 a1 t_size t_bagMates (by omega) NN x2_1 x3_2 x4_3 (by omega) (by omega) (by omega)
theorem l_X5_takeStep_27 (a1 : Int32) (t_size : Int32) (t_knots : Nat → Int32) (t_places : Nat → Int32) (h_a1 : 0 ≤ a1.toInt ∧ a1.toInt ≤ 13) (h_t_size : 0 ≤ t_size.toInt ∧ t_size.toInt ≤ 14) (h_t_knots : ∀ i, 0 ≤ (t_knots i).toInt ∧ (t_knots i).toInt ≤ 13) (h_t_places : ∀ i, 0 ≤ (t_places i).toInt ∧ ((t_places i).toInt = 0 ∨ (t_places i).toInt < t_size.toInt)) (hp0 : a1.toInt < t_size.toInt) : ∀ (n : Nat) (x2 : Int32) (x3 : Int32) (x4 : Int32) (x5 : Int32) (x6 : Int32) (t_others : Nat → Int32) (t_otherCount : Nat → Int32) (t_scopes : Nat → Int32) (t_users : Nat → Int32) (t_feeders : Nat → Int32) (t_feederCount : Nat → Int32) (t_going_left : Int32) (t_going_newEnds : Int32) (t_going_near : Nat → Int32), (0 ≤ x2.toInt ∧ x2.toInt ≤ 13) → (0 ≤ x4.toInt ∧ x4.toInt ≤ 4) → (0 ≤ x5.toInt ∧ (x5.toInt = 14 ∨ x5.toInt < t_size.toInt)) → (0 ≤ x6.toInt ∧ x6.toInt ≤ 14) → (∀ i, 0 ≤ (t_others i).toInt ∧ (t_others i).toInt ≤ 13) → (∀ i, 0 ≤ (t_otherCount i).toInt ∧ (t_otherCount i).toInt ≤ 4) → (∀ i, 0 ≤ (t_feeders i).toInt ∧ (t_feeders i).toInt ≤ 13) → (∀ i, 0 ≤ (t_feederCount i).toInt ∧ (t_feederCount i).toInt ≤ 14 ∧ ((i : Int) < t_size.toInt → (t_feederCount i).toInt ≤ a1.toInt)) → (0 ≤ t_going_left.toInt ∧ t_going_left.toInt ≤ 16383) → 14 - x6.toInt < (n : Int) → Sat (L_X5_takeStep_27 a1 t_size t_knots t_places n x2 x3 x4 x5 x6 t_others t_otherCount t_scopes t_users t_feeders t_feederCount t_going_left t_going_newEnds t_going_near) (fun r => (∀ i, 0 ≤ ((r.1) i).toInt ∧ ((r.1) i).toInt ≤ 13) ∧ (∀ i, 0 ≤ ((r.2.1) i).toInt ∧ ((r.2.1) i).toInt ≤ 4) ∧ (∀ i, 0 ≤ ((r.2.2.2.2.1) i).toInt ∧ ((r.2.2.2.2.1) i).toInt ≤ 13) ∧ (∀ i, 0 ≤ ((r.2.2.2.2.2.1) i).toInt ∧ ((r.2.2.2.2.2.1) i).toInt ≤ 14 ∧ ((i : Int) < t_size.toInt → ((r.2.2.2.2.2.1) i).toInt ≤ a1.toInt + 1)) ∧ (0 ≤ (r.2.2.2.2.2.2.1).toInt ∧ (r.2.2.2.2.2.2.1).toInt ≤ 16383) ∧ True) := by
  intro n
  induction n with
  | zero => intro x2 x3 x4 x5 x6 t_others t_otherCount t_scopes t_users t_feeders t_feederCount t_going_left t_going_newEnds t_going_near h_x2 h_x4 h_x5 h_x6 h_t_others h_t_otherCount h_t_feeders h_t_feederCount h_t_going_left hM; exfalso; omega
  | succ n ih =>
    intro x2 x3 x4 x5 x6 t_others t_otherCount t_scopes t_users t_feeders t_feederCount t_going_left t_going_newEnds t_going_near h_x2 h_x4 h_x5 h_x6 h_t_others h_t_otherCount h_t_feeders h_t_feederCount h_t_going_left hM
    rw [L_X5_takeStep_27]
    have l14 : (14 : Int32).toInt = 14 := rfl
    have l1 : (1 : Int32).toInt = 1 := rfl
    have l0 : (0 : Int32).toInt = 0 := rfl
    have l4 : (4 : Int32).toInt = 4 := rfl
    refine sat_ite (fun hc1 => ?_) (fun hc1 => ?_)
    · have thc1 := ple hc1
      refine sat_stI (okI_of (by omega)) fun t_otherCount_8 e2 => ?_
      have h_t_otherCount_8 := ra_upd e2 h_t_otherCount (by omega)
      refine sat_stI (okI_of (by omega)) fun t_scopes_9 e3 => ?_
      refine sat_stI (okI_of (by omega)) fun t_users_10 e4 => ?_
      refine sat_ite (fun hc5 => ?_) (fun hc5 => ?_)
      · have thc5 := ple hc5
        refine sat_cal (s_X1_letGo x2 t_going_left t_going_newEnds t_going_near (by omega) (by omega)) fun u11 hu11 => ?_
        obtain ⟨hu11_0, -⟩ := hu11
        exact sat_some ⟨h_t_others, h_t_otherCount_8, h_t_feeders, (fun i => by have q0 := h_t_feederCount i; (try dsimp only); omega), (by (try dsimp only); omega), trivial⟩
      · have thc5 := nle hc5
        refine sat_ldA (okI_of (by omega)) fun v12 e6 => ?_
        have hv12 := h_t_feederCount (x5).toNatClampNeg
        rw [← e6] at hv12
        have nv12 := tn (x := x5) (by omega)
        try (have k8 : (x5 * (14 : Int32)).toInt = x5.toInt * 14 := ti_mulc rfl (by omega))
        try (have k9 : ((x5 * (14 : Int32)) + v12).toInt = (x5 * (14 : Int32)).toInt + v12.toInt := ti_add (by omega) (by omega))
        refine sat_stI (okI_of (by omega)) fun t_feeders_13 e7 => ?_
        have h_t_feeders_13 := ra_upd e7 h_t_feeders (by omega)
        refine sat_ldA (okI_of (by omega)) fun v14 e10 => ?_
        have tdv14 := congrArg Int32.toInt (e10.trans e6.symm)
        have hv14 := h_t_feederCount (x5).toNatClampNeg
        rw [← e10] at hv14
        have nv14 := tn (x := x5) (by omega)
        refine sat_stI (okI_of (by omega)) fun t_feederCount_15 e11 => ?_
        try (have k12 : (v14 + (1 : Int32)).toInt = v14.toInt + (1 : Int32).toInt := ti_add (by omega) (by omega))
        have u_t_feederCount_15 := upd_or e11
        have n_t_feederCount_15 := tn (x := x5) (by omega)
        refine sat_cal (s_X1_letGo x2 t_going_left t_going_newEnds t_going_near (by omega) (by omega)) fun u16 hu16 => ?_
        obtain ⟨hu16_0, -⟩ := hu16
        exact sat_some ⟨h_t_others, h_t_otherCount_8, h_t_feeders_13, (fun i => by have q0 := h_t_feederCount i; have q1 := u_t_feederCount_15 i; (try dsimp only); omega), (by (try dsimp only); omega), trivial⟩
    · have thc1 := nle hc1
      refine sat_cal (s_X8_hasBit x3 x6) fun u17 hu17 => ?_
      obtain ⟨hu17_0, -⟩ := hu17
      refine sat_ite (fun hc13 => ?_) (fun hc13 => ?_)
      · have thc13 := congrArg Int32.toInt hc13
        refine sat_bnd fun x6_18 e14 => ?_
        try (have k15 : (x6 + (1 : Int32)).toInt = x6.toInt + (1 : Int32).toInt := ti_add (by omega) (by omega))
        have te14 := congrArg Int32.toInt e14
        exact ih x2 x3 x4 x5 x6_18 t_others t_otherCount t_scopes t_users t_feeders t_feederCount t_going_left t_going_newEnds t_going_near (by omega) (by omega) (by omega) (by omega) h_t_others h_t_otherCount h_t_feeders (fun i => by have q0 := h_t_feederCount i; (try dsimp only); omega) (by omega) (by omega)
      · have thc13 := neq hc13
        refine sat_ite (fun hc16 => ?_) (fun hc16 => ?_)
        · have thc16 := plt hc16
          try (have k18 : (a1 * (4 : Int32)).toInt = a1.toInt * 4 := ti_mulc rfl (by omega))
          try (have k19 : ((a1 * (4 : Int32)) + x4).toInt = (a1 * (4 : Int32)).toInt + x4.toInt := ti_add (by omega) (by omega))
          refine sat_stI (okI_of (by omega)) fun t_others_19 e17 => ?_
          have h_t_others_19 := ra_upd e17 h_t_others (by omega)
          refine sat_bnd fun x4_20 e20 => ?_
          try (have k21 : (x4 + (1 : Int32)).toInt = x4.toInt + (1 : Int32).toInt := ti_add (by omega) (by omega))
          have te20 := congrArg Int32.toInt e20
          refine sat_ldA (okI_of (by omega)) fun v21 e22 => ?_
          have hv21 := h_t_places (x6).toNatClampNeg
          rw [← e22] at hv21
          have nv21 := tn (x := x6) (by omega)
          refine sat_bnd fun x5_22 e23 => ?_
          have te23 := mm e23
          refine sat_bnd fun x6_23 e24 => ?_
          try (have k25 : (x6 + (1 : Int32)).toInt = x6.toInt + (1 : Int32).toInt := ti_add (by omega) (by omega))
          have te24 := congrArg Int32.toInt e24
          exact ih x2 x3 x4_20 x5_22 x6_23 t_others_19 t_otherCount t_scopes t_users t_feeders t_feederCount t_going_left t_going_newEnds t_going_near (by omega) (by omega) (by omega) (by omega) h_t_others_19 h_t_otherCount h_t_feeders (fun i => by have q0 := h_t_feederCount i; (try dsimp only); omega) (by omega) (by omega)
        · have thc16 := nlt hc16
          refine sat_bnd fun x6_24 e26 => ?_
          try (have k27 : (x6 + (1 : Int32)).toInt = x6.toInt + (1 : Int32).toInt := ti_add (by omega) (by omega))
          have te26 := congrArg Int32.toInt e26
          exact ih x2 x3 x4 x5 x6_24 t_others t_otherCount t_scopes t_users t_feeders t_feederCount t_going_left t_going_newEnds t_going_near (by omega) (by omega) (by omega) (by omega) h_t_others h_t_otherCount h_t_feeders (fun i => by have q0 := h_t_feederCount i; (try dsimp only); omega) (by omega) (by omega)
theorem s_X5_takeStep (a1 : Int32) (t_size : Int32) (t_knots : Nat → Int32) (t_others : Nat → Int32) (t_otherCount : Nat → Int32) (t_scopes : Nat → Int32) (t_users : Nat → Int32) (t_feeders : Nat → Int32) (t_feederCount : Nat → Int32) (t_places : Nat → Int32) (t_going_left : Int32) (t_going_newEnds : Int32) (t_going_near : Nat → Int32) (h_a1 : 0 ≤ a1.toInt ∧ a1.toInt ≤ 13) (h_t_size : 0 ≤ t_size.toInt ∧ t_size.toInt ≤ 14) (h_t_knots : ∀ i, 0 ≤ (t_knots i).toInt ∧ (t_knots i).toInt ≤ 13) (h_t_others : ∀ i, 0 ≤ (t_others i).toInt ∧ (t_others i).toInt ≤ 13) (h_t_otherCount : ∀ i, 0 ≤ (t_otherCount i).toInt ∧ (t_otherCount i).toInt ≤ 4) (h_t_feeders : ∀ i, 0 ≤ (t_feeders i).toInt ∧ (t_feeders i).toInt ≤ 13) (h_t_feederCount : ∀ i, 0 ≤ (t_feederCount i).toInt ∧ (t_feederCount i).toInt ≤ 14 ∧ ((i : Int) < t_size.toInt → (t_feederCount i).toInt ≤ a1.toInt)) (h_t_places : ∀ i, 0 ≤ (t_places i).toInt ∧ ((t_places i).toInt = 0 ∨ (t_places i).toInt < t_size.toInt)) (h_t_going_left : 0 ≤ t_going_left.toInt ∧ t_going_left.toInt ≤ 16383) (hp0 : a1.toInt < t_size.toInt) : Sat (f_X5_takeStep a1 t_size t_knots t_others t_otherCount t_scopes t_users t_feeders t_feederCount t_places t_going_left t_going_newEnds t_going_near) (fun r => (∀ i, 0 ≤ ((r.1) i).toInt ∧ ((r.1) i).toInt ≤ 13) ∧ (∀ i, 0 ≤ ((r.2.1) i).toInt ∧ ((r.2.1) i).toInt ≤ 4) ∧ (∀ i, 0 ≤ ((r.2.2.2.2.1) i).toInt ∧ ((r.2.2.2.2.1) i).toInt ≤ 13) ∧ (∀ i, 0 ≤ ((r.2.2.2.2.2.1) i).toInt ∧ ((r.2.2.2.2.2.1) i).toInt ≤ 14 ∧ ((i : Int) < t_size.toInt → ((r.2.2.2.2.2.1) i).toInt ≤ a1.toInt + 1)) ∧ (0 ≤ (r.2.2.2.2.2.2.1).toInt ∧ (r.2.2.2.2.2.2.1).toInt ≤ 16383) ∧ True) := by
  unfold f_X5_takeStep
  have l0 : (0 : Int32).toInt = 0 := rfl
  have l14 : (14 : Int32).toInt = 14 := rfl
  refine sat_ldA (okI_of (by omega)) fun v1 e1 => ?_
  have hv1 := ra_get e1 h_t_knots
  refine sat_bnd fun x2_2 e2 => ?_
  have te2 := congrArg Int32.toInt e2
  refine sat_ldA (okI_of (by omega)) fun v3 e3 => ?_
  refine sat_bnd fun x3_4 e4 => ?_
  have te4 := congrArg Int32.toInt e4
  refine sat_bnd fun x4_5 e5 => ?_
  have te5 := congrArg Int32.toInt e5
  refine sat_bnd fun x5_6 e6 => ?_
  have te6 := congrArg Int32.toInt e6
  refine sat_bnd fun x6_7 e7 => ?_
  have te7 := congrArg Int32.toInt e7
  have hNN := NN_i
  exact l_X5_takeStep_27 a1 t_size t_knots t_places (by omega) (by omega) h_t_knots (fun i => by have q0 := h_t_places i; (try dsimp only); omega) (by omega) NN x2_2 x3_4 x4_5 x5_6 x6_7 t_others t_otherCount t_scopes t_users t_feeders t_feederCount t_going_left t_going_newEnds t_going_near (by omega) (by omega) (by omega) (by omega) h_t_others h_t_otherCount h_t_feeders (fun i => by have q0 := h_t_feederCount i; (try dsimp only); omega) (by omega) (by omega)
theorem l_X5_lay_107 (u_size : Int32) (u_near : Nat → Int32) (v_size : Int32) (v_masks : Nat → Int32) (h_u_size : 0 ≤ u_size.toInt ∧ u_size.toInt ≤ 14) (h_v_size : 0 ≤ v_size.toInt ∧ v_size.toInt ≤ 14) : ∀ (n : Nat) (x4 : Int32) (t_size : Int32) (t_knots : Nat → Int32) (t_others : Nat → Int32) (t_otherCount : Nat → Int32) (t_scopes : Nat → Int32) (t_users : Nat → Int32) (t_feeders : Nat → Int32) (t_feederCount : Nat → Int32) (t_places : Nat → Int32) (t_bagMates : Nat → Int32) (t_going_left : Int32) (t_going_newEnds : Int32) (t_going_near : Nat → Int32), (0 ≤ x4.toInt ∧ x4.toInt ≤ 14) → (0 ≤ t_size.toInt ∧ t_size.toInt ≤ 14) → (∀ i, 0 ≤ (t_knots i).toInt ∧ (t_knots i).toInt ≤ 13) → (∀ i, 0 ≤ (t_others i).toInt ∧ (t_others i).toInt ≤ 13) → (∀ i, 0 ≤ (t_otherCount i).toInt ∧ (t_otherCount i).toInt ≤ 4) → (∀ i, 0 ≤ (t_feeders i).toInt ∧ (t_feeders i).toInt ≤ 13) → (∀ i, 0 ≤ (t_feederCount i).toInt ∧ (t_feederCount i).toInt ≤ 14 ∧ ((i : Int) < t_size.toInt → (t_feederCount i).toInt ≤ x4.toInt)) → (∀ i, 0 ≤ (t_places i).toInt ∧ ((t_places i).toInt = 0 ∨ (t_places i).toInt < u_size.toInt)) → (0 ≤ t_going_left.toInt ∧ t_going_left.toInt ≤ 16383) → (t_size.toInt = u_size.toInt) → 14 - x4.toInt < (n : Int) → Sat (L_X5_lay_107 u_size u_near v_size v_masks n x4 t_size t_knots t_others t_otherCount t_scopes t_users t_feeders t_feederCount t_places t_bagMates t_going_left t_going_newEnds t_going_near) (fun r => (0 ≤ (r.1).toInt ∧ (r.1).toInt ≤ 14) ∧ (∀ i, 0 ≤ ((r.2.1) i).toInt ∧ ((r.2.1) i).toInt ≤ 13) ∧ (∀ i, 0 ≤ ((r.2.2.1) i).toInt ∧ ((r.2.2.1) i).toInt ≤ 13) ∧ (∀ i, 0 ≤ ((r.2.2.2.1) i).toInt ∧ ((r.2.2.2.1) i).toInt ≤ 4) ∧ (∀ i, 0 ≤ ((r.2.2.2.2.2.2.1) i).toInt ∧ ((r.2.2.2.2.2.2.1) i).toInt ≤ 13) ∧ (∀ i, 0 ≤ ((r.2.2.2.2.2.2.2.1) i).toInt ∧ ((r.2.2.2.2.2.2.2.1) i).toInt ≤ 14) ∧ (∀ i, 0 ≤ ((r.2.2.2.2.2.2.2.2.1) i).toInt ∧ (((r.2.2.2.2.2.2.2.2.1) i).toInt = 0 ∨ ((r.2.2.2.2.2.2.2.2.1) i).toInt < u_size.toInt)) ∧ (0 ≤ (r.2.2.2.2.2.2.2.2.2.2.1).toInt ∧ (r.2.2.2.2.2.2.2.2.2.2.1).toInt ≤ 16383) ∧ True) := by
  intro n
  induction n with
  | zero => intro x4 t_size t_knots t_others t_otherCount t_scopes t_users t_feeders t_feederCount t_places t_bagMates t_going_left t_going_newEnds t_going_near h_x4 h_t_size h_t_knots h_t_others h_t_otherCount h_t_feeders h_t_feederCount h_t_places h_t_going_left hi0 hM; exfalso; omega
  | succ n ih =>
    intro x4 t_size t_knots t_others t_otherCount t_scopes t_users t_feeders t_feederCount t_places t_bagMates t_going_left t_going_newEnds t_going_near h_x4 h_t_size h_t_knots h_t_others h_t_otherCount h_t_feeders h_t_feederCount h_t_places h_t_going_left hi0 hM
    rw [L_X5_lay_107]
    have l1 : (1 : Int32).toInt = 1 := rfl
    refine sat_ite (fun hc1 => ?_) (fun hc1 => ?_)
    · have thc1 := ple hc1
      exact sat_some ⟨(by (try dsimp only); omega), h_t_knots, h_t_others, h_t_otherCount, h_t_feeders, (fun i => by have q0 := h_t_feederCount i; (try dsimp only); omega), (fun i => by have q0 := h_t_places i; (try dsimp only); omega), (by (try dsimp only); omega), trivial⟩
    · have thc1 := nle hc1
      refine sat_cal (s_X5_takeStep x4 t_size t_knots t_others t_otherCount t_scopes t_users t_feeders t_feederCount t_places t_going_left t_going_newEnds t_going_near (by omega) (by omega) h_t_knots h_t_others h_t_otherCount h_t_feeders (fun i => by have q0 := h_t_feederCount i; (try dsimp only); omega) (fun i => by have q0 := h_t_places i; (try dsimp only); omega) (by omega) (by omega)) fun u7 hu7 => ?_
      obtain ⟨hu7_0, hu7_1, hu7_4, hu7_5, hu7_6, -⟩ := hu7
      refine sat_bnd fun x4_8 e2 => ?_
      try (have k3 : (x4 + (1 : Int32)).toInt = x4.toInt + (1 : Int32).toInt := ti_add (by omega) (by omega))
      have te2 := congrArg Int32.toInt e2
      exact ih x4_8 t_size t_knots u7.1 u7.2.1 u7.2.2.1 u7.2.2.2.1 u7.2.2.2.2.1 u7.2.2.2.2.2.1 t_places t_bagMates u7.2.2.2.2.2.2.1 u7.2.2.2.2.2.2.2.1 u7.2.2.2.2.2.2.2.2 (by omega) (by omega) h_t_knots hu7_0 hu7_1 hu7_4 (fun i => by have q0 := hu7_5 i; (try dsimp only); omega) (fun i => by have q0 := h_t_places i; (try dsimp only); omega) (by omega) (by omega) (by omega)
theorem l_X5_lay_45 (u_size : Int32) (u_near : Nat → Int32) (v_size : Int32) (v_masks : Nat → Int32) (h_u_size : 0 ≤ u_size.toInt ∧ u_size.toInt ≤ 14) (h_v_size : 0 ≤ v_size.toInt ∧ v_size.toInt ≤ 14) : ∀ (n : Nat) (x3 : Int32) (x4 : Int32) (t_size : Int32) (t_knots : Nat → Int32) (t_others : Nat → Int32) (t_otherCount : Nat → Int32) (t_scopes : Nat → Int32) (t_users : Nat → Int32) (t_feeders : Nat → Int32) (t_feederCount : Nat → Int32) (t_places : Nat → Int32) (t_bagMates : Nat → Int32) (t_going_left : Int32) (t_going_newEnds : Int32) (t_going_near : Nat → Int32), (-1 ≤ x4.toInt ∧ x4.toInt ≤ 13) → (0 ≤ t_size.toInt ∧ t_size.toInt ≤ 14) → (∀ i, 0 ≤ (t_knots i).toInt ∧ (t_knots i).toInt ≤ 13) → (∀ i, 0 ≤ (t_others i).toInt ∧ (t_others i).toInt ≤ 13) → (∀ i, 0 ≤ (t_otherCount i).toInt ∧ (t_otherCount i).toInt ≤ 4) → (∀ i, 0 ≤ (t_feeders i).toInt ∧ (t_feeders i).toInt ≤ 13) → (∀ i, 0 ≤ (t_feederCount i).toInt ∧ (t_feederCount i).toInt ≤ 14 ∧ (x4.toInt < (i : Int) → (i : Int) < t_size.toInt → (t_feederCount i).toInt ≤ 0)) → (∀ i, 0 ≤ (t_places i).toInt ∧ ((t_places i).toInt = 0 ∨ (t_places i).toInt < u_size.toInt)) → (0 ≤ t_going_left.toInt ∧ t_going_left.toInt ≤ 16383) → (t_size.toInt = u_size.toInt) → (x4.toInt < t_size.toInt) → x4.toInt - -1 < (n : Int) → Sat (L_X5_lay_45 u_size u_near v_size v_masks n x3 x4 t_size t_knots t_others t_otherCount t_scopes t_users t_feeders t_feederCount t_places t_bagMates t_going_left t_going_newEnds t_going_near) (fun r => (0 ≤ (r.1).toInt ∧ (r.1).toInt ≤ 14) ∧ (∀ i, 0 ≤ ((r.2.1) i).toInt ∧ ((r.2.1) i).toInt ≤ 13) ∧ (∀ i, 0 ≤ ((r.2.2.1) i).toInt ∧ ((r.2.2.1) i).toInt ≤ 13) ∧ (∀ i, 0 ≤ ((r.2.2.2.1) i).toInt ∧ ((r.2.2.2.1) i).toInt ≤ 4) ∧ (∀ i, 0 ≤ ((r.2.2.2.2.2.2.1) i).toInt ∧ ((r.2.2.2.2.2.2.1) i).toInt ≤ 13) ∧ (∀ i, 0 ≤ ((r.2.2.2.2.2.2.2.1) i).toInt ∧ ((r.2.2.2.2.2.2.2.1) i).toInt ≤ 14) ∧ (∀ i, 0 ≤ ((r.2.2.2.2.2.2.2.2.1) i).toInt ∧ (((r.2.2.2.2.2.2.2.2.1) i).toInt = 0 ∨ ((r.2.2.2.2.2.2.2.2.1) i).toInt < u_size.toInt)) ∧ (0 ≤ (r.2.2.2.2.2.2.2.2.2.2.1).toInt ∧ (r.2.2.2.2.2.2.2.2.2.2.1).toInt ≤ 16383) ∧ True) := by
  intro n
  induction n with
  | zero => intro x3 x4 t_size t_knots t_others t_otherCount t_scopes t_users t_feeders t_feederCount t_places t_bagMates t_going_left t_going_newEnds t_going_near h_x4 h_t_size h_t_knots h_t_others h_t_otherCount h_t_feeders h_t_feederCount h_t_places h_t_going_left hi0 hi1 hM; exfalso; omega
  | succ n ih =>
    intro x3 x4 t_size t_knots t_others t_otherCount t_scopes t_users t_feeders t_feederCount t_places t_bagMates t_going_left t_going_newEnds t_going_near h_x4 h_t_size h_t_knots h_t_others h_t_otherCount h_t_feeders h_t_feederCount h_t_places h_t_going_left hi0 hi1 hM
    rw [L_X5_lay_45]
    have l0 : (0 : Int32).toInt = 0 := rfl
    refine sat_ite (fun hc1 => ?_) (fun hc1 => ?_)
    · have thc1 := plt hc1
      refine sat_cal (s_X1_start t_going_left t_going_newEnds t_going_near u_size u_near (by omega) (by omega)) fun u5 hu5 => ?_
      obtain ⟨hu5_0, -⟩ := hu5
      refine sat_bnd fun x4_6 e2 => ?_
      have te2 := congrArg Int32.toInt e2
      have hNN := NN_i
      exact l_X5_lay_107 u_size u_near v_size v_masks (by omega) (by omega) NN x4_6 t_size t_knots t_others t_otherCount t_scopes t_users t_feeders t_feederCount t_places t_bagMates u5.1 u5.2.1 u5.2.2 (by omega) (by omega) h_t_knots h_t_others h_t_otherCount h_t_feeders (fun i => by have q0 := h_t_feederCount i; (try dsimp only); omega) (fun i => by have q0 := h_t_places i; (try dsimp only); omega) (by omega) (by omega) (by omega)
    · have thc1 := nlt hc1
      refine sat_cal (s_X5_mostJoined x3 t_size t_bagMates (by omega)) fun u9 hu9 => ?_
      obtain ⟨hu9_0, -⟩ := hu9
      refine sat_bnd fun x5_10 e3 => ?_
      have te3 := congrArg Int32.toInt e3
      refine sat_bnd fun x3_11 e4 => ?_
      refine sat_stI (okI_of (by omega)) fun t_knots_12 e5 => ?_
      have h_t_knots_12 := ra_upd e5 h_t_knots (by omega)
      refine sat_stI (okI_of (by omega)) fun t_places_13 e6 => ?_
      have u_t_places_13 := upd_or e6
      have n_t_places_13 := tn (x := x5_10) (by omega)
      refine sat_stI (okI_of (by omega)) fun t_feederCount_14 e7 => ?_
      have u_t_feederCount_14 := upd_or e7
      have n_t_feederCount_14 := tn (x := x4) (by omega)
      refine sat_bnd fun x4_15 e8 => ?_
      have te8 : x4_15.toInt = x4.toInt - 1 := by rw [e8]; exact ti_dec (by omega)
      clear e8
      exact ih x3_11 x4_15 t_size t_knots_12 t_others t_otherCount t_scopes t_users t_feeders t_feederCount_14 t_places_13 t_bagMates t_going_left t_going_newEnds t_going_near (by omega) (by omega) h_t_knots_12 h_t_others h_t_otherCount h_t_feeders (fun i => by have q0 := h_t_feederCount i; have q1 := u_t_feederCount_14 i; (try dsimp only); omega) (fun i => by have q0 := h_t_places i; have q1 := u_t_places_13 i; (try dsimp only); omega) (by omega) (by omega) (by omega) (by omega)
theorem l_X5_lay_10 (u_size : Int32) (u_near : Nat → Int32) (v_size : Int32) (v_masks : Nat → Int32) (h_u_size : 0 ≤ u_size.toInt ∧ u_size.toInt ≤ 14) (h_v_size : 0 ≤ v_size.toInt ∧ v_size.toInt ≤ 14) : ∀ (n : Nat) (x3 : Int32) (t_size : Int32) (t_knots : Nat → Int32) (t_others : Nat → Int32) (t_otherCount : Nat → Int32) (t_scopes : Nat → Int32) (t_users : Nat → Int32) (t_feeders : Nat → Int32) (t_feederCount : Nat → Int32) (t_places : Nat → Int32) (t_bagMates : Nat → Int32) (t_going_left : Int32) (t_going_newEnds : Int32) (t_going_near : Nat → Int32), (0 ≤ x3.toInt ∧ x3.toInt ≤ 14) → (0 ≤ t_size.toInt ∧ t_size.toInt ≤ 14) → (∀ i, 0 ≤ (t_knots i).toInt ∧ (t_knots i).toInt ≤ 13) → (∀ i, 0 ≤ (t_others i).toInt ∧ (t_others i).toInt ≤ 13) → (∀ i, 0 ≤ (t_otherCount i).toInt ∧ (t_otherCount i).toInt ≤ 4) → (∀ i, 0 ≤ (t_feeders i).toInt ∧ (t_feeders i).toInt ≤ 13) → (∀ i, 0 ≤ (t_feederCount i).toInt ∧ (t_feederCount i).toInt ≤ 14) → (∀ i, 0 ≤ (t_places i).toInt ∧ ((t_places i).toInt = 0 ∨ (t_places i).toInt < u_size.toInt)) → (0 ≤ t_going_left.toInt ∧ t_going_left.toInt ≤ 16383) → (t_size.toInt = u_size.toInt) → 14 - x3.toInt < (n : Int) → Sat (L_X5_lay_10 u_size u_near v_size v_masks n x3 t_size t_knots t_others t_otherCount t_scopes t_users t_feeders t_feederCount t_places t_bagMates t_going_left t_going_newEnds t_going_near) (fun r => (0 ≤ (r.1).toInt ∧ (r.1).toInt ≤ 14) ∧ (∀ i, 0 ≤ ((r.2.1) i).toInt ∧ ((r.2.1) i).toInt ≤ 13) ∧ (∀ i, 0 ≤ ((r.2.2.1) i).toInt ∧ ((r.2.2.1) i).toInt ≤ 13) ∧ (∀ i, 0 ≤ ((r.2.2.2.1) i).toInt ∧ ((r.2.2.2.1) i).toInt ≤ 4) ∧ (∀ i, 0 ≤ ((r.2.2.2.2.2.2.1) i).toInt ∧ ((r.2.2.2.2.2.2.1) i).toInt ≤ 13) ∧ (∀ i, 0 ≤ ((r.2.2.2.2.2.2.2.1) i).toInt ∧ ((r.2.2.2.2.2.2.2.1) i).toInt ≤ 14) ∧ (∀ i, 0 ≤ ((r.2.2.2.2.2.2.2.2.1) i).toInt ∧ (((r.2.2.2.2.2.2.2.2.1) i).toInt = 0 ∨ ((r.2.2.2.2.2.2.2.2.1) i).toInt < u_size.toInt)) ∧ (0 ≤ (r.2.2.2.2.2.2.2.2.2.2.1).toInt ∧ (r.2.2.2.2.2.2.2.2.2.2.1).toInt ≤ 16383) ∧ True) := by
  intro n
  induction n with
  | zero => intro x3 t_size t_knots t_others t_otherCount t_scopes t_users t_feeders t_feederCount t_places t_bagMates t_going_left t_going_newEnds t_going_near h_x3 h_t_size h_t_knots h_t_others h_t_otherCount h_t_feeders h_t_feederCount h_t_places h_t_going_left hi0 hM; exfalso; omega
  | succ n ih =>
    intro x3 t_size t_knots t_others t_otherCount t_scopes t_users t_feeders t_feederCount t_places t_bagMates t_going_left t_going_newEnds t_going_near h_x3 h_t_size h_t_knots h_t_others h_t_otherCount h_t_feeders h_t_feederCount h_t_places h_t_going_left hi0 hM
    rw [L_X5_lay_10]
    have l0 : (0 : Int32).toInt = 0 := rfl
    have l1 : (1 : Int32).toInt = 1 := rfl
    refine sat_ite (fun hc1 => ?_) (fun hc1 => ?_)
    · have thc1 := ple hc1
      refine sat_bnd fun x3_3 e2 => ?_
      have te2 := congrArg Int32.toInt e2
      refine sat_bnd fun x4_4 e3 => ?_
      try (have k4 : (t_size - (1 : Int32)).toInt = t_size.toInt - (1 : Int32).toInt := ti_sub (by omega) (by omega))
      have te3 := congrArg Int32.toInt e3
      have hNN := NN_i
      exact l_X5_lay_45 u_size u_near v_size v_masks (by omega) (by omega) NN x3_3 x4_4 t_size t_knots t_others t_otherCount t_scopes t_users t_feeders t_feederCount t_places t_bagMates t_going_left t_going_newEnds t_going_near (by omega) (by omega) h_t_knots h_t_others h_t_otherCount h_t_feeders (fun i => by have q0 := h_t_feederCount i; (try dsimp only); omega) (fun i => by have q0 := h_t_places i; (try dsimp only); omega) (by omega) (by omega) (by omega) (by omega)
    · have thc1 := nle hc1
      refine sat_cal (s_X0_matesOf x3 v_size v_masks (by omega)) fun u16 hu16 => ?_
      refine sat_stI (okI_of (by omega)) fun t_bagMates_17 e5 => ?_
      refine sat_bnd fun x3_18 e6 => ?_
      try (have k7 : (x3 + (1 : Int32)).toInt = x3.toInt + (1 : Int32).toInt := ti_add (by omega) (by omega))
      have te6 := congrArg Int32.toInt e6
      exact ih x3_18 t_size t_knots t_others t_otherCount t_scopes t_users t_feeders t_feederCount t_places t_bagMates_17 t_going_left t_going_newEnds t_going_near (by omega) (by omega) h_t_knots h_t_others h_t_otherCount h_t_feeders h_t_feederCount (fun i => by have q0 := h_t_places i; (try dsimp only); omega) (by omega) (by omega) (by omega)
theorem s_X5_lay (t_size : Int32) (t_knots : Nat → Int32) (t_others : Nat → Int32) (t_otherCount : Nat → Int32) (t_scopes : Nat → Int32) (t_users : Nat → Int32) (t_feeders : Nat → Int32) (t_feederCount : Nat → Int32) (t_places : Nat → Int32) (t_bagMates : Nat → Int32) (t_going_left : Int32) (t_going_newEnds : Int32) (t_going_near : Nat → Int32) (u_size : Int32) (u_near : Nat → Int32) (v_size : Int32) (v_masks : Nat → Int32) (h_t_size : 0 ≤ t_size.toInt ∧ t_size.toInt ≤ 14) (h_t_knots : ∀ i, 0 ≤ (t_knots i).toInt ∧ (t_knots i).toInt ≤ 13) (h_t_others : ∀ i, 0 ≤ (t_others i).toInt ∧ (t_others i).toInt ≤ 13) (h_t_otherCount : ∀ i, 0 ≤ (t_otherCount i).toInt ∧ (t_otherCount i).toInt ≤ 4) (h_t_feeders : ∀ i, 0 ≤ (t_feeders i).toInt ∧ (t_feeders i).toInt ≤ 13) (h_t_feederCount : ∀ i, 0 ≤ (t_feederCount i).toInt ∧ (t_feederCount i).toInt ≤ 14) (h_t_places : ∀ i, 0 ≤ (t_places i).toInt ∧ ((t_places i).toInt = 0 ∨ (t_places i).toInt < u_size.toInt)) (h_t_going_left : 0 ≤ t_going_left.toInt ∧ t_going_left.toInt ≤ 16383) (h_u_size : 0 ≤ u_size.toInt ∧ u_size.toInt ≤ 14) (h_v_size : 0 ≤ v_size.toInt ∧ v_size.toInt ≤ 14) : Sat (f_X5_lay t_size t_knots t_others t_otherCount t_scopes t_users t_feeders t_feederCount t_places t_bagMates t_going_left t_going_newEnds t_going_near u_size u_near v_size v_masks) (fun r => (0 ≤ (r.1).toInt ∧ (r.1).toInt ≤ 14) ∧ (∀ i, 0 ≤ ((r.2.1) i).toInt ∧ ((r.2.1) i).toInt ≤ 13) ∧ (∀ i, 0 ≤ ((r.2.2.1) i).toInt ∧ ((r.2.2.1) i).toInt ≤ 13) ∧ (∀ i, 0 ≤ ((r.2.2.2.1) i).toInt ∧ ((r.2.2.2.1) i).toInt ≤ 4) ∧ (∀ i, 0 ≤ ((r.2.2.2.2.2.2.1) i).toInt ∧ ((r.2.2.2.2.2.2.1) i).toInt ≤ 13) ∧ (∀ i, 0 ≤ ((r.2.2.2.2.2.2.2.1) i).toInt ∧ ((r.2.2.2.2.2.2.2.1) i).toInt ≤ 14) ∧ (∀ i, 0 ≤ ((r.2.2.2.2.2.2.2.2.1) i).toInt ∧ (((r.2.2.2.2.2.2.2.2.1) i).toInt = 0 ∨ ((r.2.2.2.2.2.2.2.2.1) i).toInt < u_size.toInt)) ∧ (0 ≤ (r.2.2.2.2.2.2.2.2.2.2.1).toInt ∧ (r.2.2.2.2.2.2.2.2.2.2.1).toInt ≤ 16383) ∧ True) := by
  unfold f_X5_lay
  have l0 : (0 : Int32).toInt = 0 := rfl
  refine sat_bnd fun t_size_1 e1 => ?_
  have te1 := congrArg Int32.toInt e1
  refine sat_bnd fun x3_2 e2 => ?_
  have te2 := congrArg Int32.toInt e2
  have hNN := NN_i
  exact l_X5_lay_10 u_size u_near v_size v_masks (by omega) (by omega) NN x3_2 t_size_1 t_knots t_others t_otherCount t_scopes t_users t_feeders t_feederCount t_places t_bagMates t_going_left t_going_newEnds t_going_near (by omega) (by omega) h_t_knots h_t_others h_t_otherCount h_t_feeders h_t_feederCount (fun i => by have q0 := h_t_places i; (try dsimp only); omega) (by omega) (by omega) (by omega)
theorem l_X7_openAll_2 (t_net_size : Int32) (t_law_size : Int32) (t_law_forbidden : Nat → Int32) (h_t_net_size : 0 ≤ t_net_size.toInt ∧ t_net_size.toInt ≤ 14) (h_t_law_size : 1 ≤ t_law_size.toInt ∧ t_law_size.toInt ≤ 4) : ∀ (n : Nat) (x1 : Int32) (t_open : Nat → Int32), (0 ≤ x1.toInt ∧ x1.toInt ≤ 14) → 14 - x1.toInt < (n : Int) → Sat (L_X7_openAll_2 t_net_size t_law_size t_law_forbidden n x1 t_open) (fun r => True) := by
  intro n
  induction n with
  | zero => intro x1 t_open h_x1 hM; exfalso; omega
  | succ n ih =>
    intro x1 t_open h_x1 hM
    rw [L_X7_openAll_2]
    have l1 : (1 : Int32).toInt = 1 := rfl
    refine sat_ite (fun hc1 => ?_) (fun hc1 => ?_)
    · have thc1 := ple hc1
      exact sat_some trivial
    · have thc1 := nle hc1
      refine sat_cal (s_X3_openFor x1 t_law_size t_law_forbidden (by omega) (by omega)) fun u2 hu2 => ?_
      refine sat_stI (okI_of (by omega)) fun t_open_3 e2 => ?_
      refine sat_bnd fun x1_4 e3 => ?_
      try (have k4 : (x1 + (1 : Int32)).toInt = x1.toInt + (1 : Int32).toInt := ti_add (by omega) (by omega))
      have te3 := congrArg Int32.toInt e3
      exact ih x1_4 t_open_3 (by omega) (by omega)
theorem s_X7_openAll (t_open : Nat → Int32) (t_net_size : Int32) (t_law_size : Int32) (t_law_forbidden : Nat → Int32) (h_t_net_size : 0 ≤ t_net_size.toInt ∧ t_net_size.toInt ≤ 14) (h_t_law_size : 1 ≤ t_law_size.toInt ∧ t_law_size.toInt ≤ 4) : Sat (f_X7_openAll t_open t_net_size t_law_size t_law_forbidden) (fun r => True) := by
  unfold f_X7_openAll
  have l0 : (0 : Int32).toInt = 0 := rfl
  refine sat_bnd fun x1_1 e1 => ?_
  have te1 := congrArg Int32.toInt e1
  have hNN := NN_i
  exact l_X7_openAll_2 t_net_size t_law_size t_law_forbidden (by omega) (by omega) NN x1_1 t_open (by omega) (by omega)
theorem l_X7_listOpenStates_4 (a1 : Int32) (t_open : Nat → Int32) (t_law_size : Int32) (h_a1 : 0 ≤ a1.toInt ∧ a1.toInt ≤ 13) (h_t_law_size : 1 ≤ t_law_size.toInt ∧ t_law_size.toInt ≤ 4) : ∀ (n : Nat) (x2 : Int32) (x3 : Int32) (t_openStates : Nat → Int32) (t_openCount : Nat → Int32), (0 ≤ x2.toInt ∧ x2.toInt ≤ 4) → (0 ≤ x3.toInt ∧ x3.toInt ≤ 4) → (∀ i, 0 ≤ (t_openStates i).toInt ∧ (t_openStates i).toInt ≤ 3) → (∀ i, 0 ≤ (t_openCount i).toInt ∧ (t_openCount i).toInt ≤ 4) → (x2.toInt ≤ x3.toInt) → 4 - x3.toInt < (n : Int) → Sat (L_X7_listOpenStates_4 a1 t_open t_law_size n x2 x3 t_openStates t_openCount) (fun r => (∀ i, 0 ≤ ((r.1) i).toInt ∧ ((r.1) i).toInt ≤ 3) ∧ (∀ i, 0 ≤ ((r.2) i).toInt ∧ ((r.2) i).toInt ≤ 4) ∧ True) := by
  intro n
  induction n with
  | zero => intro x2 x3 t_openStates t_openCount h_x2 h_x3 h_t_openStates h_t_openCount hi0 hM; exfalso; omega
  | succ n ih =>
    intro x2 x3 t_openStates t_openCount h_x2 h_x3 h_t_openStates h_t_openCount hi0 hM
    rw [L_X7_listOpenStates_4]
    have l0 : (0 : Int32).toInt = 0 := rfl
    have l1 : (1 : Int32).toInt = 1 := rfl
    have l4 : (4 : Int32).toInt = 4 := rfl
    refine sat_ite (fun hc1 => ?_) (fun hc1 => ?_)
    · have thc1 := ple hc1
      refine sat_stI (okI_of (by omega)) fun t_openCount_3 e2 => ?_
      have h_t_openCount_3 := ra_upd e2 h_t_openCount (by omega)
      exact sat_some ⟨h_t_openStates, h_t_openCount_3, trivial⟩
    · have thc1 := nle hc1
      refine sat_ldA (okI_of (by omega)) fun v4 e3 => ?_
      refine sat_cal (s_X8_hasBit v4 x3) fun u5 hu5 => ?_
      obtain ⟨hu5_0, -⟩ := hu5
      refine sat_ite (fun hc4 => ?_) (fun hc4 => ?_)
      · have thc4 := congrArg Int32.toInt hc4
        refine sat_bnd fun x3_9 e5 => ?_
        try (have k6 : (x3 + (1 : Int32)).toInt = x3.toInt + (1 : Int32).toInt := ti_add (by omega) (by omega))
        have te5 := congrArg Int32.toInt e5
        exact ih x2 x3_9 t_openStates t_openCount (by omega) (by omega) h_t_openStates h_t_openCount (by omega) (by omega)
      · have thc4 := neq hc4
        try (have k8 : (a1 * (4 : Int32)).toInt = a1.toInt * 4 := ti_mulc rfl (by omega))
        try (have k9 : ((a1 * (4 : Int32)) + x2).toInt = (a1 * (4 : Int32)).toInt + x2.toInt := ti_add (by omega) (by omega))
        refine sat_stI (okI_of (by omega)) fun t_openStates_6 e7 => ?_
        have h_t_openStates_6 := ra_upd e7 h_t_openStates (by omega)
        refine sat_bnd fun x2_7 e10 => ?_
        try (have k11 : (x2 + (1 : Int32)).toInt = x2.toInt + (1 : Int32).toInt := ti_add (by omega) (by omega))
        have te10 := congrArg Int32.toInt e10
        refine sat_bnd fun x3_8 e12 => ?_
        try (have k13 : (x3 + (1 : Int32)).toInt = x3.toInt + (1 : Int32).toInt := ti_add (by omega) (by omega))
        have te12 := congrArg Int32.toInt e12
        exact ih x2_7 x3_8 t_openStates_6 t_openCount (by omega) (by omega) h_t_openStates_6 h_t_openCount (by omega) (by omega)
theorem s_X7_listOpenStates (a1 : Int32) (t_open : Nat → Int32) (t_law_size : Int32) (t_openStates : Nat → Int32) (t_openCount : Nat → Int32) (h_a1 : 0 ≤ a1.toInt ∧ a1.toInt ≤ 13) (h_t_law_size : 1 ≤ t_law_size.toInt ∧ t_law_size.toInt ≤ 4) (h_t_openStates : ∀ i, 0 ≤ (t_openStates i).toInt ∧ (t_openStates i).toInt ≤ 3) (h_t_openCount : ∀ i, 0 ≤ (t_openCount i).toInt ∧ (t_openCount i).toInt ≤ 4) : Sat (f_X7_listOpenStates a1 t_open t_law_size t_openStates t_openCount) (fun r => (∀ i, 0 ≤ ((r.1) i).toInt ∧ ((r.1) i).toInt ≤ 3) ∧ (∀ i, 0 ≤ ((r.2) i).toInt ∧ ((r.2) i).toInt ≤ 4) ∧ True) := by
  unfold f_X7_listOpenStates
  have l0 : (0 : Int32).toInt = 0 := rfl
  refine sat_bnd fun x2_1 e1 => ?_
  have te1 := congrArg Int32.toInt e1
  refine sat_bnd fun x3_2 e2 => ?_
  have te2 := congrArg Int32.toInt e2
  have hNN := NN_i
  exact l_X7_listOpenStates_4 a1 t_open t_law_size (by omega) (by omega) NN x2_1 x3_2 t_openStates t_openCount (by omega) (by omega) h_t_openStates h_t_openCount (by omega) (by omega)
theorem s_X7_pickedState (a1 : Int32) (t_openStates : Nat → Int32) (t_picks : Nat → Int32) (h_a1 : 0 ≤ a1.toInt ∧ a1.toInt ≤ 13) (h_t_openStates : ∀ i, 0 ≤ (t_openStates i).toInt ∧ (t_openStates i).toInt ≤ 3) (h_t_picks : ∀ i, 0 ≤ (t_picks i).toInt ∧ (t_picks i).toInt ≤ 3) : Sat (f_X7_pickedState a1 t_openStates t_picks) (fun r => (0 ≤ r.toInt ∧ r.toInt ≤ 3) ∧ True) := by
  unfold f_X7_pickedState
  have l4 : (4 : Int32).toInt = 4 := rfl
  refine sat_ldA (okI_of (by omega)) fun v1 e1 => ?_
  have hv1 := ra_get e1 h_t_picks
  try (have k3 : (a1 * (4 : Int32)).toInt = a1.toInt * 4 := ti_mulc rfl (by omega))
  try (have k4 : ((a1 * (4 : Int32)) + v1).toInt = (a1 * (4 : Int32)).toInt + v1.toInt := ti_add (by omega) (by omega))
  refine sat_ldA (okI_of (by omega)) fun v2 e2 => ?_
  have hv2 := ra_get e2 h_t_openStates
  exact sat_some ⟨(by omega), trivial⟩
theorem l_X7_addEdges_43 (a1 : Int32) (a2 : Int32) (t_sign : Int32) (t_net_loads : Nat → Int32) (t_net_near : Nat → Int32) (t_net_ties : Nat → Int32) (t_law_factors : Nat → Int32) (t_law_pairFactors : Nat → Int32) (t_law_barred : Nat → Int32) (t_plan_others : Nat → Int32) (t_plan_otherCount : Nat → Int32) (t_openStates : Nat → Int32) (t_picks : Nat → Int32) (h_a1 : 0 ≤ a1.toInt ∧ a1.toInt ≤ 13) (h_a2 : 0 ≤ a2.toInt ∧ a2.toInt ≤ 13) (h_t_plan_others : ∀ i, 0 ≤ (t_plan_others i).toInt ∧ (t_plan_others i).toInt ≤ 13) (h_t_plan_otherCount : ∀ i, 0 ≤ (t_plan_otherCount i).toInt ∧ (t_plan_otherCount i).toInt ≤ 4) (h_t_openStates : ∀ i, 0 ≤ (t_openStates i).toInt ∧ (t_openStates i).toInt ≤ 3) (h_t_picks : ∀ i, 0 ≤ (t_picks i).toInt ∧ (t_picks i).toInt ≤ 3) : ∀ (n : Nat) (x3 : Int32) (x4 : Int32) (x5 : Int32) (x6 : Int32) (t_pickedSum : Int32), (0 ≤ x3.toInt ∧ x3.toInt ≤ 3) → (0 ≤ x6.toInt ∧ x6.toInt ≤ 56) → 56 - x6.toInt < (n : Int) → Sat (L_X7_addEdges_43 a1 a2 t_sign t_net_loads t_net_near t_net_ties t_law_factors t_law_pairFactors t_law_barred t_plan_others t_plan_otherCount t_openStates t_picks n x3 x4 x5 x6 t_pickedSum) (fun r => (0 ≤ (r.1).toInt ∧ (r.1).toInt ≤ 1) ∧ True) := by
  intro n
  induction n with
  | zero => intro x3 x4 x5 x6 t_pickedSum h_x3 h_x6 hM; exfalso; omega
  | succ n ih =>
    intro x3 x4 x5 x6 t_pickedSum h_x3 h_x6 hM
    rw [L_X7_addEdges_43]
    have l4 : (4 : Int32).toInt = 4 := rfl
    have l1 : (1 : Int32).toInt = 1 := rfl
    have l0 : (0 : Int32).toInt = 0 := rfl
    have l14 : (14 : Int32).toInt = 14 := rfl
    refine sat_ldA (okI_of (by omega)) fun v9 e1 => ?_
    have hv9 := ra_get e1 h_t_plan_otherCount
    try (have k3 : (a1 * (4 : Int32)).toInt = a1.toInt * 4 := ti_mulc rfl (by omega))
    try (have k4 : ((a1 * (4 : Int32)) + v9).toInt = (a1 * (4 : Int32)).toInt + v9.toInt := ti_add (by omega) (by omega))
    refine sat_ite (fun hc2 => ?_) (fun hc2 => ?_)
    · have thc2 := ple hc2
      refine sat_bnd fun t_pickedSum_10 e5 => ?_
      have te5 := congrArg Int32.toInt e5
      exact sat_some ⟨(by (try dsimp only); omega), trivial⟩
    · have thc2 := nle hc2
      refine sat_ldA (okI_of (by omega)) fun v11 e7 => ?_
      have hv11 := ra_get e7 h_t_plan_others
      refine sat_bnd fun x7_12 e8 => ?_
      have te8 := congrArg Int32.toInt e8
      refine sat_cal (s_X8_hasBit x4 x7_12) fun u13 hu13 => ?_
      obtain ⟨hu13_0, -⟩ := hu13
      refine sat_ite (fun hc9 => ?_) (fun hc9 => ?_)
      · have thc9 := congrArg Int32.toInt hc9
        refine sat_bnd fun x6_21 e10 => ?_
        try (have k11 : (x6 + (1 : Int32)).toInt = x6.toInt + (1 : Int32).toInt := ti_add (by omega) (by omega))
        have te10 := congrArg Int32.toInt e10
        exact ih x3 x4 x5 x6_21 t_pickedSum (by omega) (by omega) (by omega)
      · have thc9 := neq hc9
        refine sat_cal (s_X7_pickedState x7_12 t_openStates t_picks (by omega) h_t_openStates h_t_picks) fun u14 hu14 => ?_
        obtain ⟨hu14_0, -⟩ := hu14
        refine sat_bnd fun x8_15 e12 => ?_
        try (have k13 : (x3 * (4 : Int32)).toInt = x3.toInt * 4 := ti_mulc rfl (by omega))
        try (have k14 : ((x3 * (4 : Int32)) + u14).toInt = (x3 * (4 : Int32)).toInt + u14.toInt := ti_add (by omega) (by omega))
        have te12 := congrArg Int32.toInt e12
        refine sat_ldA (okI_of (by omega)) fun v16 e15 => ?_
        refine sat_ite (fun hc16 => ?_) (fun hc16 => ?_)
        · have thc16 := congrArg Int32.toInt hc16
          try (have k18 : (a2 * (14 : Int32)).toInt = a2.toInt * 14 := ti_mulc rfl (by omega))
          try (have k19 : ((a2 * (14 : Int32)) + x7_12).toInt = (a2 * (14 : Int32)).toInt + x7_12.toInt := ti_add (by omega) (by omega))
          refine sat_ldA (okI_of (by omega)) fun v17 e17 => ?_
          refine sat_ldA (okI_of (by omega)) fun v18 e20 => ?_
          refine sat_bnd fun x5_19 e21 => ?_
          try (have k23 : (x5 + (v17 * v18)).toInt = x5.toInt + (v17 * v18).toInt := ti_add (by omega) (by omega))
          have te21 := congrArg Int32.toInt e21
          refine sat_bnd fun x6_20 e24 => ?_
          try (have k25 : (x6 + (1 : Int32)).toInt = x6.toInt + (1 : Int32).toInt := ti_add (by omega) (by omega))
          have te24 := congrArg Int32.toInt e24
          exact ih x3 x4 x5_19 x6_20 t_pickedSum (by omega) (by omega) (by omega)
        · have thc16 := neq hc16
          exact sat_some ⟨(by (try dsimp only); omega), trivial⟩
theorem s_X7_addEdges (a1 : Int32) (a2 : Int32) (t_sign : Int32) (t_pickedSum : Int32) (t_net_loads : Nat → Int32) (t_net_near : Nat → Int32) (t_net_ties : Nat → Int32) (t_law_factors : Nat → Int32) (t_law_pairFactors : Nat → Int32) (t_law_barred : Nat → Int32) (t_plan_others : Nat → Int32) (t_plan_otherCount : Nat → Int32) (t_openStates : Nat → Int32) (t_picks : Nat → Int32) (h_a1 : 0 ≤ a1.toInt ∧ a1.toInt ≤ 13) (h_a2 : 0 ≤ a2.toInt ∧ a2.toInt ≤ 13) (h_t_plan_others : ∀ i, 0 ≤ (t_plan_others i).toInt ∧ (t_plan_others i).toInt ≤ 13) (h_t_plan_otherCount : ∀ i, 0 ≤ (t_plan_otherCount i).toInt ∧ (t_plan_otherCount i).toInt ≤ 4) (h_t_openStates : ∀ i, 0 ≤ (t_openStates i).toInt ∧ (t_openStates i).toInt ≤ 3) (h_t_picks : ∀ i, 0 ≤ (t_picks i).toInt ∧ (t_picks i).toInt ≤ 3) : Sat (f_X7_addEdges a1 a2 t_sign t_pickedSum t_net_loads t_net_near t_net_ties t_law_factors t_law_pairFactors t_law_barred t_plan_others t_plan_otherCount t_openStates t_picks) (fun r => (0 ≤ (r.1).toInt ∧ (r.1).toInt ≤ 1) ∧ True) := by
  unfold f_X7_addEdges
  have l4 : (4 : Int32).toInt = 4 := rfl
  refine sat_cal (s_X7_pickedState a2 t_openStates t_picks (by omega) h_t_openStates h_t_picks) fun u1 hu1 => ?_
  obtain ⟨hu1_0, -⟩ := hu1
  refine sat_bnd fun x3_2 e1 => ?_
  have te1 := congrArg Int32.toInt e1
  refine sat_ldA (okI_of (by omega)) fun v3 e2 => ?_
  refine sat_bnd fun x4_4 e3 => ?_
  have te3 := congrArg Int32.toInt e3
  refine sat_ldA (okI_of (by omega)) fun v5 e4 => ?_
  refine sat_ldA (okI_of (by omega)) fun v6 e5 => ?_
  refine sat_bnd fun x5_7 e6 => ?_
  have te6 := congrArg Int32.toInt e6
  refine sat_bnd fun x6_8 e8 => ?_
  try (have k9 : (a1 * (4 : Int32)).toInt = a1.toInt * 4 := ti_mulc rfl (by omega))
  have te8 := congrArg Int32.toInt e8
  have hNN := NN_i
  exact l_X7_addEdges_43 a1 a2 t_sign t_net_loads t_net_near t_net_ties t_law_factors t_law_pairFactors t_law_barred t_plan_others t_plan_otherCount t_openStates t_picks (by omega) (by omega) h_t_plan_others h_t_plan_otherCount h_t_openStates h_t_picks NN x3_2 x4_4 x5_7 x6_8 t_pickedSum (by omega) (by omega) (by omega)
theorem l_X7_entryOf_10 (a1 : Int32) (t_plan_others : Nat → Int32) (t_plan_otherCount : Nat → Int32) (t_picks : Nat → Int32) (t_strides : Nat → Int32) (h_a1 : 0 ≤ a1.toInt ∧ a1.toInt ≤ 13) (h_t_plan_others : ∀ i, 0 ≤ (t_plan_others i).toInt ∧ (t_plan_others i).toInt ≤ 13) (h_t_plan_otherCount : ∀ i, 0 ≤ (t_plan_otherCount i).toInt ∧ (t_plan_otherCount i).toInt ≤ 4) (h_t_picks : ∀ i, 0 ≤ (t_picks i).toInt ∧ (t_picks i).toInt ≤ 3) (h_t_strides : ST t_strides) : ∀ (n : Nat) (x2 : Int32) (x3 : Int32), (0 ≤ x2.toInt ∧ x2.toInt ≤ 3583) → (0 ≤ x3.toInt ∧ x3.toInt ≤ 56) → ((x3.toInt = 4 * a1.toInt + 0 ∧ x2.toInt ≤ 256 * a1.toInt + 0) ∨ (x3.toInt = 4 * a1.toInt + 1 ∧ x2.toInt ≤ 256 * a1.toInt + 3) ∨ (x3.toInt = 4 * a1.toInt + 2 ∧ x2.toInt ≤ 256 * a1.toInt + 15) ∨ (x3.toInt = 4 * a1.toInt + 3 ∧ x2.toInt ≤ 256 * a1.toInt + 63) ∨ (x3.toInt = 4 * a1.toInt + 4 ∧ x2.toInt ≤ 256 * a1.toInt + 255)) → 56 - x3.toInt < (n : Int) → Sat (L_X7_entryOf_10 a1 t_plan_others t_plan_otherCount t_picks t_strides n x2 x3) (fun r => (0 ≤ r.toInt ∧ r.toInt ≤ 3583) ∧ True) := by
  intro n
  induction n with
  | zero => intro x2 x3 h_x2 h_x3 hi0 hM; exfalso; omega
  | succ n ih =>
    intro x2 x3 h_x2 h_x3 hi0 hM
    rw [L_X7_entryOf_10]
    have l4 : (4 : Int32).toInt = 4 := rfl
    have l1 : (1 : Int32).toInt = 1 := rfl
    refine sat_ldA (okI_of (by omega)) fun v3 e1 => ?_
    have hv3 := ra_get e1 h_t_plan_otherCount
    have k1 : (a1 * (4 : Int32)).toInt = a1.toInt * 4 := ti_mulc rfl (by omega)
    have k2 : ((a1 * (4 : Int32)) + v3).toInt = (a1 * (4 : Int32)).toInt + v3.toInt := ti_add (by omega) (by omega)
    refine sat_ite (fun hc => ?_) (fun hc => ?_)
    · exact sat_some ⟨h_x2, trivial⟩
    · have hc := nle hc
      refine sat_ldA (okI_of (by omega)) fun v4 e2 => ?_
      have hv4 := ra_get e2 h_t_plan_others
      refine sat_ldA (okI_of (by omega)) fun v5 e3 => ?_
      have hv5 := ra_get e3 h_t_picks
      refine sat_ldA (okI_of (by omega)) fun v6 e4 => ?_
      have nx := tn (x := x3) (by omega)
      have k4 : (x3 + (1 : Int32)).toInt = x3.toInt + (1 : Int32).toInt := ti_add (by omega) (by omega)
      refine sat_bnd fun x2_7 e5 => ?_
      refine sat_bnd fun x3_8 e6 => ?_
      have te6 := congrArg Int32.toInt e6
      rcases hi0 with c | c | c | c | c
      · have h6 := st_get0 h_t_strides e4 (by omega)
        have hp := mul_c (A := 3) (B := 1) (C := 3) hv5 h6 (by decide) (by decide) (by decide)
        have k3 : (x2 + (v5 * v6)).toInt = x2.toInt + (v5 * v6).toInt := ti_add (by omega) (by omega)
        have te5 := congrArg Int32.toInt e5
        clear h6 hv5 hv4 hv3 e1 e2 e3 e4
        exact ih x2_7 x3_8 (by omega) (by omega) (Or.inr (Or.inl ⟨by omega, by omega⟩)) (by omega)
      · have h6 := st_get1 h_t_strides e4 (by omega)
        have hp := mul_c (A := 3) (B := 4) (C := 12) hv5 h6 (by decide) (by decide) (by decide)
        have k3 : (x2 + (v5 * v6)).toInt = x2.toInt + (v5 * v6).toInt := ti_add (by omega) (by omega)
        have te5 := congrArg Int32.toInt e5
        clear h6 hv5 hv4 hv3 e1 e2 e3 e4
        exact ih x2_7 x3_8 (by omega) (by omega) (Or.inr (Or.inr (Or.inl ⟨by omega, by omega⟩))) (by omega)
      · have h6 := st_get2 h_t_strides e4 (by omega)
        have hp := mul_c (A := 3) (B := 16) (C := 48) hv5 h6 (by decide) (by decide) (by decide)
        have k3 : (x2 + (v5 * v6)).toInt = x2.toInt + (v5 * v6).toInt := ti_add (by omega) (by omega)
        have te5 := congrArg Int32.toInt e5
        clear h6 hv5 hv4 hv3 e1 e2 e3 e4
        exact ih x2_7 x3_8 (by omega) (by omega) (Or.inr (Or.inr (Or.inr (Or.inl ⟨by omega, by omega⟩)))) (by omega)
      · have h6 := st_get3 h_t_strides e4 (by omega)
        have hp := mul_c (A := 3) (B := 64) (C := 192) hv5 h6 (by decide) (by decide) (by decide)
        have k3 : (x2 + (v5 * v6)).toInt = x2.toInt + (v5 * v6).toInt := ti_add (by omega) (by omega)
        have te5 := congrArg Int32.toInt e5
        clear h6 hv5 hv4 hv3 e1 e2 e3 e4
        exact ih x2_7 x3_8 (by omega) (by omega) (Or.inr (Or.inr (Or.inr (Or.inr (⟨by omega, by omega⟩))))) (by omega)
      · exfalso; omega
theorem s_X7_entryOf (a1 : Int32) (t_plan_others : Nat → Int32) (t_plan_otherCount : Nat → Int32) (t_picks : Nat → Int32) (t_strides : Nat → Int32) (h_a1 : 0 ≤ a1.toInt ∧ a1.toInt ≤ 13) (h_t_plan_others : ∀ i, 0 ≤ (t_plan_others i).toInt ∧ (t_plan_others i).toInt ≤ 13) (h_t_plan_otherCount : ∀ i, 0 ≤ (t_plan_otherCount i).toInt ∧ (t_plan_otherCount i).toInt ≤ 4) (h_t_picks : ∀ i, 0 ≤ (t_picks i).toInt ∧ (t_picks i).toInt ≤ 3) (h_t_strides : ST t_strides) : Sat (f_X7_entryOf a1 t_plan_others t_plan_otherCount t_picks t_strides) (fun r => (0 ≤ r.toInt ∧ r.toInt ≤ 3583) ∧ True) := by
  unfold f_X7_entryOf
  have l256 : (256 : Int32).toInt = 256 := rfl
  have l4 : (4 : Int32).toInt = 4 := rfl
  refine sat_bnd fun x2_1 e1 => ?_
  try (have k2 : (a1 * (256 : Int32)).toInt = a1.toInt * 256 := ti_mulc rfl (by omega))
  have te1 := congrArg Int32.toInt e1
  refine sat_bnd fun x3_2 e3 => ?_
  try (have k4 : (a1 * (4 : Int32)).toInt = a1.toInt * 4 := ti_mulc rfl (by omega))
  have te3 := congrArg Int32.toInt e3
  have hNN := NN_i
  exact l_X7_entryOf_10 a1 t_plan_others t_plan_otherCount t_picks t_strides (by omega) h_t_plan_others h_t_plan_otherCount h_t_picks h_t_strides NN x2_1 x3_2 (by omega) (by omega) (by omega) (by omega)
theorem l_X7_addTables_4 (a1 : Int32) (t_plan_others : Nat → Int32) (t_plan_otherCount : Nat → Int32) (t_plan_feeders : Nat → Int32) (t_plan_feederCount : Nat → Int32) (t_picks : Nat → Int32) (t_strides : Nat → Int32) (t_sums : Nat → Int32) (t_counts : Nat → Int32) (h_a1 : 0 ≤ a1.toInt ∧ a1.toInt ≤ 13) (h_t_plan_others : ∀ i, 0 ≤ (t_plan_others i).toInt ∧ (t_plan_others i).toInt ≤ 13) (h_t_plan_otherCount : ∀ i, 0 ≤ (t_plan_otherCount i).toInt ∧ (t_plan_otherCount i).toInt ≤ 4) (h_t_plan_feeders : ∀ i, 0 ≤ (t_plan_feeders i).toInt ∧ (t_plan_feeders i).toInt ≤ 13) (h_t_plan_feederCount : ∀ i, 0 ≤ (t_plan_feederCount i).toInt ∧ (t_plan_feederCount i).toInt ≤ 14) (h_t_picks : ∀ i, 0 ≤ (t_picks i).toInt ∧ (t_picks i).toInt ≤ 3) (h_t_strides : ST t_strides) : ∀ (n : Nat) (x2 : Int32) (x3 : Int32) (t_pickedSum : Int32), (0 ≤ x3.toInt ∧ x3.toInt ≤ 14) → 14 - x3.toInt < (n : Int) → Sat (L_X7_addTables_4 a1 t_plan_others t_plan_otherCount t_plan_feeders t_plan_feederCount t_picks t_strides t_sums t_counts n x2 x3 t_pickedSum) (fun r => True) := by
  intro n
  induction n with
  | zero => intro x2 x3 t_pickedSum h_x3 hM; exfalso; omega
  | succ n ih =>
    intro x2 x3 t_pickedSum h_x3 hM
    rw [L_X7_addTables_4]
    have l14 : (14 : Int32).toInt = 14 := rfl
    have l0 : (0 : Int32).toInt = 0 := rfl
    have l1 : (1 : Int32).toInt = 1 := rfl
    refine sat_ldA (okI_of (by omega)) fun v3 e1 => ?_
    have hv3 := ra_get e1 h_t_plan_feederCount
    refine sat_ite (fun hc2 => ?_) (fun hc2 => ?_)
    · have thc2 := ple hc2
      exact sat_some trivial
    · have thc2 := nle hc2
      try (have k4 : (a1 * (14 : Int32)).toInt = a1.toInt * 14 := ti_mulc rfl (by omega))
      try (have k5 : ((a1 * (14 : Int32)) + x3).toInt = (a1 * (14 : Int32)).toInt + x3.toInt := ti_add (by omega) (by omega))
      refine sat_ldA (okI_of (by omega)) fun v4 e3 => ?_
      have hv4 := ra_get e3 h_t_plan_feeders
      refine sat_cal (s_X7_entryOf v4 t_plan_others t_plan_otherCount t_picks t_strides (by omega) h_t_plan_others h_t_plan_otherCount h_t_picks h_t_strides) fun u5 hu5 => ?_
      obtain ⟨hu5_0, -⟩ := hu5
      refine sat_bnd fun x4_6 e6 => ?_
      have te6 := congrArg Int32.toInt e6
      refine sat_ldA (okI_of (by omega)) fun v7 e7 => ?_
      refine sat_ite (fun hc8 => ?_) (fun hc8 => ?_)
      · have thc8 := congrArg Int32.toInt hc8
        exact sat_some trivial
      · have thc8 := neq hc8
        refine sat_ldA (okI_of (by omega)) fun v8 e9 => ?_
        have tdv8 := congrArg Int32.toInt (e9.trans e7.symm)
        refine sat_bnd fun x2_9 e10 => ?_
        have te10 := congrArg Int32.toInt e10
        refine sat_ldA (okI_of (by omega)) fun v10 e12 => ?_
        refine sat_bnd fun t_pickedSum_11 e13 => ?_
        try (have k14 : (t_pickedSum + v10).toInt = t_pickedSum.toInt + v10.toInt := ti_add (by omega) (by omega))
        have te13 := congrArg Int32.toInt e13
        refine sat_bnd fun x3_12 e15 => ?_
        try (have k16 : (x3 + (1 : Int32)).toInt = x3.toInt + (1 : Int32).toInt := ti_add (by omega) (by omega))
        have te15 := congrArg Int32.toInt e15
        exact ih x2_9 x3_12 t_pickedSum_11 (by omega) (by omega)
theorem s_X7_addTables (a1 : Int32) (t_pickedSum : Int32) (t_plan_others : Nat → Int32) (t_plan_otherCount : Nat → Int32) (t_plan_feeders : Nat → Int32) (t_plan_feederCount : Nat → Int32) (t_picks : Nat → Int32) (t_strides : Nat → Int32) (t_sums : Nat → Int32) (t_counts : Nat → Int32) (h_a1 : 0 ≤ a1.toInt ∧ a1.toInt ≤ 13) (h_t_plan_others : ∀ i, 0 ≤ (t_plan_others i).toInt ∧ (t_plan_others i).toInt ≤ 13) (h_t_plan_otherCount : ∀ i, 0 ≤ (t_plan_otherCount i).toInt ∧ (t_plan_otherCount i).toInt ≤ 4) (h_t_plan_feeders : ∀ i, 0 ≤ (t_plan_feeders i).toInt ∧ (t_plan_feeders i).toInt ≤ 13) (h_t_plan_feederCount : ∀ i, 0 ≤ (t_plan_feederCount i).toInt ∧ (t_plan_feederCount i).toInt ≤ 14) (h_t_picks : ∀ i, 0 ≤ (t_picks i).toInt ∧ (t_picks i).toInt ≤ 3) (h_t_strides : ST t_strides) : Sat (f_X7_addTables a1 t_pickedSum t_plan_others t_plan_otherCount t_plan_feeders t_plan_feederCount t_picks t_strides t_sums t_counts) (fun r => True) := by
  unfold f_X7_addTables
  have l1 : (1 : Int32).toInt = 1 := rfl
  have l0 : (0 : Int32).toInt = 0 := rfl
  refine sat_bnd fun x2_1 e1 => ?_
  have te1 := congrArg Int32.toInt e1
  refine sat_bnd fun x3_2 e2 => ?_
  have te2 := congrArg Int32.toInt e2
  have hNN := NN_i
  exact l_X7_addTables_4 a1 t_plan_others t_plan_otherCount t_plan_feeders t_plan_feederCount t_picks t_strides t_sums t_counts (by omega) h_t_plan_others h_t_plan_otherCount h_t_plan_feeders h_t_plan_feederCount h_t_picks h_t_strides NN x2_1 x3_2 t_pickedSum (by omega) (by omega)
theorem j_X7_fillEntry_56 (a1 : Int32) (a2 : Int32) (t_sign : Int32) (t_net_loads : Nat → Int32) (t_net_near : Nat → Int32) (t_net_ties : Nat → Int32) (t_law_factors : Nat → Int32) (t_law_pairFactors : Nat → Int32) (t_law_barred : Nat → Int32) (t_plan_knots : Nat → Int32) (t_plan_others : Nat → Int32) (t_plan_otherCount : Nat → Int32) (t_plan_feeders : Nat → Int32) (t_plan_feederCount : Nat → Int32) (t_openStates : Nat → Int32) (t_openCount : Nat → Int32) (t_strides : Nat → Int32) (k_19 : Int32 → Int32 → Int32 → Int32 → Int32 → (Nat → Int32) → (Nat → Int32) → (Nat → Int32) → Option (Int32 × (Nat → Int32) × (Nat → Int32) × (Nat → Int32))) (g_19 : Int) (h_a1 : 0 ≤ a1.toInt ∧ a1.toInt ≤ 13) (h_a2 : 0 ≤ a2.toInt ∧ a2.toInt ≤ 3583) (h_t_plan_knots : ∀ i, 0 ≤ (t_plan_knots i).toInt ∧ (t_plan_knots i).toInt ≤ 13) (h_t_plan_others : ∀ i, 0 ≤ (t_plan_others i).toInt ∧ (t_plan_others i).toInt ≤ 13) (h_t_plan_otherCount : ∀ i, 0 ≤ (t_plan_otherCount i).toInt ∧ (t_plan_otherCount i).toInt ≤ 4) (h_t_plan_feeders : ∀ i, 0 ≤ (t_plan_feeders i).toInt ∧ (t_plan_feeders i).toInt ≤ 13) (h_t_plan_feederCount : ∀ i, 0 ≤ (t_plan_feederCount i).toInt ∧ (t_plan_feederCount i).toInt ≤ 14) (h_t_openStates : ∀ i, 0 ≤ (t_openStates i).toInt ∧ (t_openStates i).toInt ≤ 3) (h_t_openCount : ∀ i, 0 ≤ (t_openCount i).toInt ∧ (t_openCount i).toInt ≤ 4) (h_t_strides : ST t_strides) (hk_19 : ∀ (x3 : Int32) (x4 : Int32) (x5 : Int32) (x6 : Int32) (t_pickedSum : Int32) (t_picks : Nat → Int32) (t_sums : Nat → Int32) (t_counts : Nat → Int32), (0 ≤ x3.toInt ∧ x3.toInt ≤ 13) → (0 ≤ x6.toInt ∧ x6.toInt ≤ 4) → (∀ i, 0 ≤ (t_picks i).toInt ∧ (t_picks i).toInt ≤ 3) → (4 - x6.toInt < g_19) → Sat (k_19 x3 x4 x5 x6 t_pickedSum t_picks t_sums t_counts) (fun r => (∀ i, 0 ≤ ((r.2.1) i).toInt ∧ ((r.2.1) i).toInt ≤ 3) ∧ True)) : ∀ (x3 : Int32) (x4 : Int32) (x5 : Int32) (x6 : Int32) (s0 : Int32) (t_pickedSum : Int32) (t_picks : Nat → Int32) (t_sums : Nat → Int32) (t_counts : Nat → Int32), (0 ≤ x3.toInt ∧ x3.toInt ≤ 13) → (0 ≤ x6.toInt ∧ x6.toInt ≤ 3) → (∀ i, 0 ≤ (t_picks i).toInt ∧ (t_picks i).toInt ≤ 3) → (4 - x6.toInt ≤ g_19) → Sat (J_X7_fillEntry_56 a1 a2 t_sign t_net_loads t_net_near t_net_ties t_law_factors t_law_pairFactors t_law_barred t_plan_knots t_plan_others t_plan_otherCount t_plan_feeders t_plan_feederCount t_openStates t_openCount t_strides k_19 x3 x4 x5 x6 s0 t_pickedSum t_picks t_sums t_counts) (fun r => (∀ i, 0 ≤ ((r.2.1) i).toInt ∧ ((r.2.1) i).toInt ≤ 3) ∧ True) := by
  intro x3 x4 x5 x6 s0 t_pickedSum t_picks t_sums t_counts h_x3 h_x6 h_t_picks hg_19
  unfold J_X7_fillEntry_56
  have l0 : (0 : Int32).toInt = 0 := rfl
  have l1 : (1 : Int32).toInt = 1 := rfl
  refine sat_bnd fun x7_11 e1 => ?_
  have te1 := congrArg Int32.toInt e1
  refine sat_ite (fun hc2 => ?_) (fun hc2 => ?_)
  · have thc2 := congrArg Int32.toInt hc2
    refine sat_bnd fun x6_21 e3 => ?_
    try (have k4 : (x6 + (1 : Int32)).toInt = x6.toInt + (1 : Int32).toInt := ti_add (by omega) (by omega))
    have te3 := congrArg Int32.toInt e3
    exact hk_19 x3 x4 x5 x6_21 t_pickedSum t_picks t_sums t_counts (by omega) (by omega) h_t_picks (by omega)
  · have thc2 := neq hc2
    refine sat_ite (fun hc5 => ?_) (fun hc5 => ?_)
    · have thc5 := congrArg Int32.toInt hc5
      refine sat_bnd fun x4_12 e6 => ?_
      have te6 := congrArg Int32.toInt e6
      refine sat_bnd fun x5_13 e7 => ?_
      have te7 := congrArg Int32.toInt e7
      refine sat_bnd fun x6_14 e8 => ?_
      try (have k9 : (x6 + (1 : Int32)).toInt = x6.toInt + (1 : Int32).toInt := ti_add (by omega) (by omega))
      have te8 := congrArg Int32.toInt e8
      exact hk_19 x3 x4_12 x5_13 x6_14 t_pickedSum t_picks t_sums t_counts (by omega) (by omega) h_t_picks (by omega)
    · have thc5 := neq hc5
      refine sat_ite (fun hc10 => ?_) (fun hc10 => ?_)
      · have thc10 := ple hc10
        refine sat_ite (fun hc11 => ?_) (fun hc11 => ?_)
        · have thc11 := congrArg Int32.toInt hc11
          refine sat_bnd fun x5_16 e12 => ?_
          try (have k13 : (x5 + x7_11).toInt = x5.toInt + x7_11.toInt := ti_add (by omega) (by omega))
          have te12 := congrArg Int32.toInt e12
          refine sat_bnd fun x6_17 e14 => ?_
          try (have k15 : (x6 + (1 : Int32)).toInt = x6.toInt + (1 : Int32).toInt := ti_add (by omega) (by omega))
          have te14 := congrArg Int32.toInt e14
          exact hk_19 x3 x4 x5_16 x6_17 t_pickedSum t_picks t_sums t_counts (by omega) (by omega) h_t_picks (by omega)
        · have thc11 := neq hc11
          refine sat_bnd fun x6_15 e16 => ?_
          try (have k17 : (x6 + (1 : Int32)).toInt = x6.toInt + (1 : Int32).toInt := ti_add (by omega) (by omega))
          have te16 := congrArg Int32.toInt e16
          exact hk_19 x3 x4 x5 x6_15 t_pickedSum t_picks t_sums t_counts (by omega) (by omega) h_t_picks (by omega)
      · have thc10 := nle hc10
        refine sat_bnd fun x4_18 e18 => ?_
        have te18 := congrArg Int32.toInt e18
        refine sat_bnd fun x5_19 e19 => ?_
        have te19 := congrArg Int32.toInt e19
        refine sat_bnd fun x6_20 e20 => ?_
        try (have k21 : (x6 + (1 : Int32)).toInt = x6.toInt + (1 : Int32).toInt := ti_add (by omega) (by omega))
        have te20 := congrArg Int32.toInt e20
        exact hk_19 x3 x4_18 x5_19 x6_20 t_pickedSum t_picks t_sums t_counts (by omega) (by omega) h_t_picks (by omega)
theorem l_X7_fillEntry_19 (a1 : Int32) (a2 : Int32) (t_sign : Int32) (t_net_loads : Nat → Int32) (t_net_near : Nat → Int32) (t_net_ties : Nat → Int32) (t_law_factors : Nat → Int32) (t_law_pairFactors : Nat → Int32) (t_law_barred : Nat → Int32) (t_plan_knots : Nat → Int32) (t_plan_others : Nat → Int32) (t_plan_otherCount : Nat → Int32) (t_plan_feeders : Nat → Int32) (t_plan_feederCount : Nat → Int32) (t_openStates : Nat → Int32) (t_openCount : Nat → Int32) (t_strides : Nat → Int32) (h_a1 : 0 ≤ a1.toInt ∧ a1.toInt ≤ 13) (h_a2 : 0 ≤ a2.toInt ∧ a2.toInt ≤ 3583) (h_t_plan_knots : ∀ i, 0 ≤ (t_plan_knots i).toInt ∧ (t_plan_knots i).toInt ≤ 13) (h_t_plan_others : ∀ i, 0 ≤ (t_plan_others i).toInt ∧ (t_plan_others i).toInt ≤ 13) (h_t_plan_otherCount : ∀ i, 0 ≤ (t_plan_otherCount i).toInt ∧ (t_plan_otherCount i).toInt ≤ 4) (h_t_plan_feeders : ∀ i, 0 ≤ (t_plan_feeders i).toInt ∧ (t_plan_feeders i).toInt ≤ 13) (h_t_plan_feederCount : ∀ i, 0 ≤ (t_plan_feederCount i).toInt ∧ (t_plan_feederCount i).toInt ≤ 14) (h_t_openStates : ∀ i, 0 ≤ (t_openStates i).toInt ∧ (t_openStates i).toInt ≤ 3) (h_t_openCount : ∀ i, 0 ≤ (t_openCount i).toInt ∧ (t_openCount i).toInt ≤ 4) (h_t_strides : ST t_strides) : ∀ (n : Nat) (x3 : Int32) (x4 : Int32) (x5 : Int32) (x6 : Int32) (t_pickedSum : Int32) (t_picks : Nat → Int32) (t_sums : Nat → Int32) (t_counts : Nat → Int32), (0 ≤ x3.toInt ∧ x3.toInt ≤ 13) → (0 ≤ x6.toInt ∧ x6.toInt ≤ 4) → (∀ i, 0 ≤ (t_picks i).toInt ∧ (t_picks i).toInt ≤ 3) → 4 - x6.toInt < (n : Int) → Sat (L_X7_fillEntry_19 a1 a2 t_sign t_net_loads t_net_near t_net_ties t_law_factors t_law_pairFactors t_law_barred t_plan_knots t_plan_others t_plan_otherCount t_plan_feeders t_plan_feederCount t_openStates t_openCount t_strides n x3 x4 x5 x6 t_pickedSum t_picks t_sums t_counts) (fun r => (∀ i, 0 ≤ ((r.2.1) i).toInt ∧ ((r.2.1) i).toInt ≤ 3) ∧ True) := by
  intro n
  induction n with
  | zero => intro x3 x4 x5 x6 t_pickedSum t_picks t_sums t_counts h_x3 h_x6 h_t_picks hM; exfalso; omega
  | succ n ih =>
    intro x3 x4 x5 x6 t_pickedSum t_picks t_sums t_counts h_x3 h_x6 h_t_picks hM
    rw [L_X7_fillEntry_19]
    have l0 : (0 : Int32).toInt = 0 := rfl
    refine sat_ldA (okI_of (by omega)) fun v6 e1 => ?_
    have hv6 := ra_get e1 h_t_openCount
    refine sat_ite (fun hc2 => ?_) (fun hc2 => ?_)
    · have thc2 := ple hc2
      refine sat_stI (okI_of (by omega)) fun t_sums_7 e3 => ?_
      refine sat_stI (okI_of (by omega)) fun t_counts_8 e4 => ?_
      exact sat_some ⟨h_t_picks, trivial⟩
    · have thc2 := nle hc2
      refine sat_stI (okI_of (by omega)) fun t_picks_9 e5 => ?_
      have h_t_picks_9 := ra_upd e5 h_t_picks (by omega)
      refine sat_cal (s_X7_addEdges a1 x3 t_sign t_pickedSum t_net_loads t_net_near t_net_ties t_law_factors t_law_pairFactors t_law_barred t_plan_others t_plan_otherCount t_openStates t_picks_9 (by omega) (by omega) h_t_plan_others h_t_plan_otherCount h_t_openStates h_t_picks_9) fun u10 hu10 => ?_
      obtain ⟨hu10_0, -⟩ := hu10
      refine sat_ite (fun hc6 => ?_) (fun hc6 => ?_)
      · have thc6 := congrArg Int32.toInt hc6
        exact j_X7_fillEntry_56 a1 a2 t_sign t_net_loads t_net_near t_net_ties t_law_factors t_law_pairFactors t_law_barred t_plan_knots t_plan_others t_plan_otherCount t_plan_feeders t_plan_feederCount t_openStates t_openCount t_strides (fun y0 y1 y2 y3 y4 y5 y6 y7 => L_X7_fillEntry_19 a1 a2 t_sign t_net_loads t_net_near t_net_ties t_law_factors t_law_pairFactors t_law_barred t_plan_knots t_plan_others t_plan_otherCount t_plan_feeders t_plan_feederCount t_openStates t_openCount t_strides n y0 y1 y2 y3 y4 y5 y6 y7) (n : Int) (by omega) (by omega) h_t_plan_knots h_t_plan_others h_t_plan_otherCount h_t_plan_feeders h_t_plan_feederCount h_t_openStates h_t_openCount h_t_strides (fun y0 y1 y2 y3 y4 y5 y6 y7 z0 z1 z2 zm => ih y0 y1 y2 y3 y4 y5 y6 y7 z0 z1 z2 zm) x3 x4 x5 x6 (0 : Int32) u10.2 t_picks_9 t_sums t_counts (by omega) (by omega) h_t_picks_9 (by omega)
      · have thc6 := neq hc6
        refine sat_cal (s_X7_addTables a1 u10.2 t_plan_others t_plan_otherCount t_plan_feeders t_plan_feederCount t_picks_9 t_strides t_sums t_counts (by omega) h_t_plan_others h_t_plan_otherCount h_t_plan_feeders h_t_plan_feederCount h_t_picks_9 h_t_strides) fun u22 hu22 => ?_
        exact j_X7_fillEntry_56 a1 a2 t_sign t_net_loads t_net_near t_net_ties t_law_factors t_law_pairFactors t_law_barred t_plan_knots t_plan_others t_plan_otherCount t_plan_feeders t_plan_feederCount t_openStates t_openCount t_strides (fun y0 y1 y2 y3 y4 y5 y6 y7 => L_X7_fillEntry_19 a1 a2 t_sign t_net_loads t_net_near t_net_ties t_law_factors t_law_pairFactors t_law_barred t_plan_knots t_plan_others t_plan_otherCount t_plan_feeders t_plan_feederCount t_openStates t_openCount t_strides n y0 y1 y2 y3 y4 y5 y6 y7) (n : Int) (by omega) (by omega) h_t_plan_knots h_t_plan_others h_t_plan_otherCount h_t_plan_feeders h_t_plan_feederCount h_t_openStates h_t_openCount h_t_strides (fun y0 y1 y2 y3 y4 y5 y6 y7 z0 z1 z2 zm => ih y0 y1 y2 y3 y4 y5 y6 y7 z0 z1 z2 zm) x3 x4 x5 x6 u22.1 u22.2 t_picks_9 t_sums t_counts (by omega) (by omega) h_t_picks_9 (by omega)
theorem s_X7_fillEntry (a1 : Int32) (a2 : Int32) (t_sign : Int32) (t_pickedSum : Int32) (t_net_loads : Nat → Int32) (t_net_near : Nat → Int32) (t_net_ties : Nat → Int32) (t_law_factors : Nat → Int32) (t_law_pairFactors : Nat → Int32) (t_law_barred : Nat → Int32) (t_plan_knots : Nat → Int32) (t_plan_others : Nat → Int32) (t_plan_otherCount : Nat → Int32) (t_plan_feeders : Nat → Int32) (t_plan_feederCount : Nat → Int32) (t_openStates : Nat → Int32) (t_openCount : Nat → Int32) (t_picks : Nat → Int32) (t_strides : Nat → Int32) (t_sums : Nat → Int32) (t_counts : Nat → Int32) (h_a1 : 0 ≤ a1.toInt ∧ a1.toInt ≤ 13) (h_a2 : 0 ≤ a2.toInt ∧ a2.toInt ≤ 3583) (h_t_plan_knots : ∀ i, 0 ≤ (t_plan_knots i).toInt ∧ (t_plan_knots i).toInt ≤ 13) (h_t_plan_others : ∀ i, 0 ≤ (t_plan_others i).toInt ∧ (t_plan_others i).toInt ≤ 13) (h_t_plan_otherCount : ∀ i, 0 ≤ (t_plan_otherCount i).toInt ∧ (t_plan_otherCount i).toInt ≤ 4) (h_t_plan_feeders : ∀ i, 0 ≤ (t_plan_feeders i).toInt ∧ (t_plan_feeders i).toInt ≤ 13) (h_t_plan_feederCount : ∀ i, 0 ≤ (t_plan_feederCount i).toInt ∧ (t_plan_feederCount i).toInt ≤ 14) (h_t_openStates : ∀ i, 0 ≤ (t_openStates i).toInt ∧ (t_openStates i).toInt ≤ 3) (h_t_openCount : ∀ i, 0 ≤ (t_openCount i).toInt ∧ (t_openCount i).toInt ≤ 4) (h_t_picks : ∀ i, 0 ≤ (t_picks i).toInt ∧ (t_picks i).toInt ≤ 3) (h_t_strides : ST t_strides) : Sat (f_X7_fillEntry a1 a2 t_sign t_pickedSum t_net_loads t_net_near t_net_ties t_law_factors t_law_pairFactors t_law_barred t_plan_knots t_plan_others t_plan_otherCount t_plan_feeders t_plan_feederCount t_openStates t_openCount t_picks t_strides t_sums t_counts) (fun r => (∀ i, 0 ≤ ((r.2.1) i).toInt ∧ ((r.2.1) i).toInt ≤ 3) ∧ True) := by
  unfold f_X7_fillEntry
  have l0 : (0 : Int32).toInt = 0 := rfl
  refine sat_ldA (okI_of (by omega)) fun v1 e1 => ?_
  have hv1 := ra_get e1 h_t_plan_knots
  refine sat_bnd fun x3_2 e2 => ?_
  have te2 := congrArg Int32.toInt e2
  refine sat_bnd fun x4_3 e3 => ?_
  have te3 := congrArg Int32.toInt e3
  refine sat_bnd fun x5_4 e4 => ?_
  have te4 := congrArg Int32.toInt e4
  refine sat_bnd fun x6_5 e5 => ?_
  have te5 := congrArg Int32.toInt e5
  have hNN := NN_i
  exact l_X7_fillEntry_19 a1 a2 t_sign t_net_loads t_net_near t_net_ties t_law_factors t_law_pairFactors t_law_barred t_plan_knots t_plan_others t_plan_otherCount t_plan_feeders t_plan_feederCount t_openStates t_openCount t_strides (by omega) (by omega) h_t_plan_knots h_t_plan_others h_t_plan_otherCount h_t_plan_feeders h_t_plan_feederCount h_t_openStates h_t_openCount h_t_strides NN x3_2 x4_3 x5_4 x6_5 t_pickedSum t_picks t_sums t_counts (by omega) (by omega) h_t_picks (by omega)
theorem l_X7_pickNext_4 (a1 : Int32) (t_plan_others : Nat → Int32) (t_plan_otherCount : Nat → Int32) (t_openCount : Nat → Int32) (h_a1 : 0 ≤ a1.toInt ∧ a1.toInt ≤ 13) (h_t_plan_others : ∀ i, 0 ≤ (t_plan_others i).toInt ∧ (t_plan_others i).toInt ≤ 13) (h_t_plan_otherCount : ∀ i, 0 ≤ (t_plan_otherCount i).toInt ∧ (t_plan_otherCount i).toInt ≤ 4) (h_t_openCount : ∀ i, 0 ≤ (t_openCount i).toInt ∧ (t_openCount i).toInt ≤ 4) : ∀ (n : Nat) (x2 : Int32) (t_picks : Nat → Int32), (0 ≤ x2.toInt ∧ x2.toInt ≤ 56) → (∀ i, 0 ≤ (t_picks i).toInt ∧ (t_picks i).toInt ≤ 3) → 56 - x2.toInt < (n : Int) → Sat (L_X7_pickNext_4 a1 t_plan_others t_plan_otherCount t_openCount n x2 t_picks) (fun r => (∀ i, 0 ≤ (r i).toInt ∧ (r i).toInt ≤ 3) ∧ True) := by
  intro n
  induction n with
  | zero => intro x2 t_picks h_x2 h_t_picks hM; exfalso; omega
  | succ n ih =>
    intro x2 t_picks h_x2 h_t_picks hM
    rw [L_X7_pickNext_4]
    have l4 : (4 : Int32).toInt = 4 := rfl
    have l1 : (1 : Int32).toInt = 1 := rfl
    have l0 : (0 : Int32).toInt = 0 := rfl
    refine sat_ldA (okI_of (by omega)) fun v2 e1 => ?_
    have hv2 := ra_get e1 h_t_plan_otherCount
    have k1 : (a1 * (4 : Int32)).toInt = a1.toInt * 4 := ti_mulc rfl (by omega)
    have k2 : ((a1 * (4 : Int32)) + v2).toInt = (a1 * (4 : Int32)).toInt + v2.toInt := ti_add (by omega) (by omega)
    refine sat_ite (fun hc => ?_) (fun hc => ?_)
    · exact sat_some ⟨h_t_picks, trivial⟩
    · have hc := nle hc
      refine sat_ldA (okI_of (by omega)) fun v3 e2 => ?_
      have hv3 := ra_get e2 h_t_plan_others
      refine sat_bnd fun x3_4 e3 => ?_
      have te3 := congrArg Int32.toInt e3
      refine sat_ldA (okI_of (by omega)) fun v5 e4 => ?_
      have hv5 := ra_get e4 h_t_picks
      have k3 : (v5 + (1 : Int32)).toInt = v5.toInt + (1 : Int32).toInt := ti_add (by omega) (by omega)
      refine sat_stI (okI_of (by omega)) fun t_picks_6 e5 => ?_
      have u6 := upd_or e5
      refine sat_ldA (okI_of (by omega)) fun v7 e6 => ?_
      have hv7 := u6 x3_4.toNatClampNeg
      rw [← e6] at hv7
      refine sat_ldA (okI_of (by omega)) fun v8 e7 => ?_
      have hv8 := ra_get e7 h_t_openCount
      refine sat_ite (fun hd => ?_) (fun hd => ?_)
      · refine sat_stI (okI_of (by omega)) fun t_picks_9 e8 => ?_
        have u9 := upd_or e8
        have h9 : ∀ i, 0 ≤ (t_picks_9 i).toInt ∧ (t_picks_9 i).toInt ≤ 3 := fun i => by
          have q1 := h_t_picks i
          have q2 := u6 i
          have q3 := u9 i
          omega
        refine sat_bnd fun x2_10 e9 => ?_
        have k4 : (x2 + (1 : Int32)).toInt = x2.toInt + (1 : Int32).toInt := ti_add (by omega) (by omega)
        have te9 := congrArg Int32.toInt e9
        exact ih x2_10 t_picks_9 (by omega) h9 (by omega)
      · have hd := nle hd
        refine sat_some ⟨fun i => ?_, trivial⟩
        have q1 := h_t_picks i
        have q2 := u6 i
        omega
theorem s_X7_pickNext (a1 : Int32) (t_plan_others : Nat → Int32) (t_plan_otherCount : Nat → Int32) (t_openCount : Nat → Int32) (t_picks : Nat → Int32) (h_a1 : 0 ≤ a1.toInt ∧ a1.toInt ≤ 13) (h_t_plan_others : ∀ i, 0 ≤ (t_plan_others i).toInt ∧ (t_plan_others i).toInt ≤ 13) (h_t_plan_otherCount : ∀ i, 0 ≤ (t_plan_otherCount i).toInt ∧ (t_plan_otherCount i).toInt ≤ 4) (h_t_openCount : ∀ i, 0 ≤ (t_openCount i).toInt ∧ (t_openCount i).toInt ≤ 4) (h_t_picks : ∀ i, 0 ≤ (t_picks i).toInt ∧ (t_picks i).toInt ≤ 3) : Sat (f_X7_pickNext a1 t_plan_others t_plan_otherCount t_openCount t_picks) (fun r => (∀ i, 0 ≤ (r i).toInt ∧ (r i).toInt ≤ 3) ∧ True) := by
  unfold f_X7_pickNext
  have l4 : (4 : Int32).toInt = 4 := rfl
  refine sat_bnd fun x2_1 e1 => ?_
  try (have k2 : (a1 * (4 : Int32)).toInt = a1.toInt * 4 := ti_mulc rfl (by omega))
  have te1 := congrArg Int32.toInt e1
  have hNN := NN_i
  exact l_X7_pickNext_4 a1 t_plan_others t_plan_otherCount t_openCount (by omega) h_t_plan_others h_t_plan_otherCount h_t_openCount NN x2_1 t_picks (by omega) h_t_picks (by omega)
theorem l_X7_fillTable_67 (a1 : Int32) (t_sign : Int32) (t_net_loads : Nat → Int32) (t_net_near : Nat → Int32) (t_net_ties : Nat → Int32) (t_law_factors : Nat → Int32) (t_law_pairFactors : Nat → Int32) (t_law_barred : Nat → Int32) (t_plan_knots : Nat → Int32) (t_plan_others : Nat → Int32) (t_plan_otherCount : Nat → Int32) (t_plan_feeders : Nat → Int32) (t_plan_feederCount : Nat → Int32) (t_openStates : Nat → Int32) (t_openCount : Nat → Int32) (h_a1 : 0 ≤ a1.toInt ∧ a1.toInt ≤ 13) (h_t_plan_knots : ∀ i, 0 ≤ (t_plan_knots i).toInt ∧ (t_plan_knots i).toInt ≤ 13) (h_t_plan_others : ∀ i, 0 ≤ (t_plan_others i).toInt ∧ (t_plan_others i).toInt ≤ 13) (h_t_plan_otherCount : ∀ i, 0 ≤ (t_plan_otherCount i).toInt ∧ (t_plan_otherCount i).toInt ≤ 4) (h_t_plan_feeders : ∀ i, 0 ≤ (t_plan_feeders i).toInt ∧ (t_plan_feeders i).toInt ≤ 13) (h_t_plan_feederCount : ∀ i, 0 ≤ (t_plan_feederCount i).toInt ∧ (t_plan_feederCount i).toInt ≤ 14) (h_t_openStates : ∀ i, 0 ≤ (t_openStates i).toInt ∧ (t_openStates i).toInt ≤ 3) (h_t_openCount : ∀ i, 0 ≤ (t_openCount i).toInt ∧ (t_openCount i).toInt ≤ 4) : ∀ (n : Nat) (x2 : Int32) (x3 : Int32) (t_pickedSum : Int32) (t_picks : Nat → Int32) (t_strides : Nat → Int32) (t_sums : Nat → Int32) (t_counts : Nat → Int32), (0 ≤ x2.toInt ∧ x2.toInt ≤ 256) → (0 ≤ x3.toInt ∧ x3.toInt ≤ 256) → (∀ i, 0 ≤ (t_picks i).toInt ∧ (t_picks i).toInt ≤ 3) → (ST t_strides) → 256 - x3.toInt < (n : Int) → Sat (L_X7_fillTable_67 a1 t_sign t_net_loads t_net_near t_net_ties t_law_factors t_law_pairFactors t_law_barred t_plan_knots t_plan_others t_plan_otherCount t_plan_feeders t_plan_feederCount t_openStates t_openCount n x2 x3 t_pickedSum t_picks t_strides t_sums t_counts) (fun r => (∀ i, 0 ≤ ((r.2.1) i).toInt ∧ ((r.2.1) i).toInt ≤ 3) ∧ (ST (r.2.2.1)) ∧ True) := by
  intro n
  induction n with
  | zero => intro x2 x3 t_pickedSum t_picks t_strides t_sums t_counts h_x2 h_x3 h_t_picks h_t_strides hM; exfalso; omega
  | succ n ih =>
    intro x2 x3 t_pickedSum t_picks t_strides t_sums t_counts h_x2 h_x3 h_t_picks h_t_strides hM
    rw [L_X7_fillTable_67]
    have l256 : (256 : Int32).toInt = 256 := rfl
    have l1 : (1 : Int32).toInt = 1 := rfl
    refine sat_ite (fun hc1 => ?_) (fun hc1 => ?_)
    · have thc1 := ple hc1
      exact sat_some ⟨h_t_picks, h_t_strides, trivial⟩
    · have thc1 := nle hc1
      try (have k2 : (a1 * (256 : Int32)).toInt = a1.toInt * 256 := ti_mulc rfl (by omega))
      try (have k3 : ((a1 * (256 : Int32)) + x3).toInt = (a1 * (256 : Int32)).toInt + x3.toInt := ti_add (by omega) (by omega))
      refine sat_cal (s_X7_fillEntry a1 ((a1 * (256 : Int32)) + x3) t_sign t_pickedSum t_net_loads t_net_near t_net_ties t_law_factors t_law_pairFactors t_law_barred t_plan_knots t_plan_others t_plan_otherCount t_plan_feeders t_plan_feederCount t_openStates t_openCount t_picks t_strides t_sums t_counts (by omega) (by omega) h_t_plan_knots h_t_plan_others h_t_plan_otherCount h_t_plan_feeders h_t_plan_feederCount h_t_openStates h_t_openCount h_t_picks h_t_strides) fun u5 hu5 => ?_
      obtain ⟨hu5_1, -⟩ := hu5
      refine sat_cal (s_X7_pickNext a1 t_plan_others t_plan_otherCount t_openCount u5.2.1 (by omega) h_t_plan_others h_t_plan_otherCount h_t_openCount hu5_1) fun u6 hu6 => ?_
      obtain ⟨hu6_0, -⟩ := hu6
      refine sat_bnd fun x3_7 e4 => ?_
      try (have k5 : (x3 + (1 : Int32)).toInt = x3.toInt + (1 : Int32).toInt := ti_add (by omega) (by omega))
      have te4 := congrArg Int32.toInt e4
      exact ih x2 x3_7 u5.1 u6 t_strides u5.2.2.1 u5.2.2.2 (by omega) (by omega) hu6_0 h_t_strides (by omega)
theorem l_X7_fillTable_6 (a1 : Int32) (t_sign : Int32) (t_net_loads : Nat → Int32) (t_net_near : Nat → Int32) (t_net_ties : Nat → Int32) (t_law_factors : Nat → Int32) (t_law_pairFactors : Nat → Int32) (t_law_barred : Nat → Int32) (t_plan_knots : Nat → Int32) (t_plan_others : Nat → Int32) (t_plan_otherCount : Nat → Int32) (t_plan_feeders : Nat → Int32) (t_plan_feederCount : Nat → Int32) (t_openStates : Nat → Int32) (t_openCount : Nat → Int32) (h_a1 : 0 ≤ a1.toInt ∧ a1.toInt ≤ 13) (h_t_plan_knots : ∀ i, 0 ≤ (t_plan_knots i).toInt ∧ (t_plan_knots i).toInt ≤ 13) (h_t_plan_others : ∀ i, 0 ≤ (t_plan_others i).toInt ∧ (t_plan_others i).toInt ≤ 13) (h_t_plan_otherCount : ∀ i, 0 ≤ (t_plan_otherCount i).toInt ∧ (t_plan_otherCount i).toInt ≤ 4) (h_t_plan_feeders : ∀ i, 0 ≤ (t_plan_feeders i).toInt ∧ (t_plan_feeders i).toInt ≤ 13) (h_t_plan_feederCount : ∀ i, 0 ≤ (t_plan_feederCount i).toInt ∧ (t_plan_feederCount i).toInt ≤ 14) (h_t_openStates : ∀ i, 0 ≤ (t_openStates i).toInt ∧ (t_openStates i).toInt ≤ 3) (h_t_openCount : ∀ i, 0 ≤ (t_openCount i).toInt ∧ (t_openCount i).toInt ≤ 4) : ∀ (n : Nat) (x2 : Int32) (x3 : Int32) (t_pickedSum : Int32) (t_picks : Nat → Int32) (t_strides : Nat → Int32) (t_sums : Nat → Int32) (t_counts : Nat → Int32), (0 ≤ x2.toInt ∧ x2.toInt ≤ 256) → (0 ≤ x3.toInt ∧ x3.toInt ≤ 56) → (∀ i, 0 ≤ (t_picks i).toInt ∧ (t_picks i).toInt ≤ 3) → (ST t_strides) → ((x3.toInt = 4 * a1.toInt + 0 ∧ x2.toInt ≤ 1) ∨ (x3.toInt = 4 * a1.toInt + 1 ∧ x2.toInt ≤ 4) ∨ (x3.toInt = 4 * a1.toInt + 2 ∧ x2.toInt ≤ 16) ∨ (x3.toInt = 4 * a1.toInt + 3 ∧ x2.toInt ≤ 64) ∨ (x3.toInt = 4 * a1.toInt + 4 ∧ x2.toInt ≤ 256)) → 56 - x3.toInt < (n : Int) → Sat (L_X7_fillTable_6 a1 t_sign t_net_loads t_net_near t_net_ties t_law_factors t_law_pairFactors t_law_barred t_plan_knots t_plan_others t_plan_otherCount t_plan_feeders t_plan_feederCount t_openStates t_openCount n x2 x3 t_pickedSum t_picks t_strides t_sums t_counts) (fun r => (∀ i, 0 ≤ ((r.2.1) i).toInt ∧ ((r.2.1) i).toInt ≤ 3) ∧ (ST (r.2.2.1)) ∧ True) := by
  intro n
  induction n with
  | zero => intro x2 x3 t_pickedSum t_picks t_strides t_sums t_counts h_x2 h_x3 h_t_picks h_t_strides hi0 hM; exfalso; omega
  | succ n ih =>
    intro x2 x3 t_pickedSum t_picks t_strides t_sums t_counts h_x2 h_x3 h_t_picks h_t_strides hi0 hM
    rw [L_X7_fillTable_6]
    have l4 : (4 : Int32).toInt = 4 := rfl
    have l1 : (1 : Int32).toInt = 1 := rfl
    have l0 : (0 : Int32).toInt = 0 := rfl
    refine sat_ldA (okI_of (by omega)) fun v3 e1 => ?_
    have hv3 := ra_get e1 h_t_plan_otherCount
    have k1 : (a1 * (4 : Int32)).toInt = a1.toInt * 4 := ti_mulc rfl (by omega)
    have k2 : ((a1 * (4 : Int32)) + v3).toInt = (a1 * (4 : Int32)).toInt + v3.toInt := ti_add (by omega) (by omega)
    refine sat_ite (fun hc => ?_) (fun hc => ?_)
    · refine sat_bnd fun x3_4 e2 => ?_
      have te2 := congrArg Int32.toInt e2
      have hNN := NN_i
      exact l_X7_fillTable_67 a1 t_sign t_net_loads t_net_near t_net_ties t_law_factors t_law_pairFactors t_law_barred t_plan_knots t_plan_others t_plan_otherCount t_plan_feeders t_plan_feederCount t_openStates t_openCount (by omega) h_t_plan_knots h_t_plan_others h_t_plan_otherCount h_t_plan_feeders h_t_plan_feederCount h_t_openStates h_t_openCount NN x2 x3_4 t_pickedSum t_picks t_strides t_sums t_counts h_x2 (by omega) h_t_picks h_t_strides (by omega)
    · have hc := nle hc
      refine sat_ldA (okI_of (by omega)) fun v8 e2 => ?_
      have hv8 := ra_get e2 h_t_plan_others
      refine sat_bnd fun x4_9 e3 => ?_
      have te3 := congrArg Int32.toInt e3
      have nx := tn (x := x3) (by omega)
      have k4 : (x3 + (1 : Int32)).toInt = x3.toInt + (1 : Int32).toInt := ti_add (by omega) (by omega)
      refine sat_stI (okI_of (by omega)) fun t_strides_10 e4 => ?_
      refine sat_ldA (okI_of (by omega)) fun v11 e5 => ?_
      have hv11 := ra_get e5 h_t_openCount
      refine sat_bnd fun x2_12 e6 => ?_
      have te6 := congrArg Int32.toInt e6
      refine sat_stI (okI_of (by omega)) fun t_picks_13 e7 => ?_
      have h_t_picks_13 := ra_upd e7 h_t_picks (by omega)
      refine sat_bnd fun x3_14 e8 => ?_
      have te8 := congrArg Int32.toInt e8
      rcases hi0 with c | c | c | c | c
      · have h_t_strides_10 := st_upd h_t_strides e4 ⟨by omega, fun _ => by omega, fun q => absurd q (by omega), fun q => absurd q (by omega), fun q => absurd q (by omega)⟩
        have hp := mul_c (A := 1) (B := 4) (C := 4) ⟨h_x2.1, c.2⟩ hv11 (by decide) (by decide) (by decide)
        exact ih x2_12 x3_14 t_pickedSum t_picks_13 t_strides_10 t_sums t_counts (by omega) (by omega) h_t_picks_13 h_t_strides_10 (Or.inr (Or.inl ⟨by omega, by omega⟩)) (by omega)
      · have h_t_strides_10 := st_upd h_t_strides e4 ⟨by omega, fun q => absurd q (by omega), fun _ => by omega, fun q => absurd q (by omega), fun q => absurd q (by omega)⟩
        have hp := mul_c (A := 4) (B := 4) (C := 16) ⟨h_x2.1, c.2⟩ hv11 (by decide) (by decide) (by decide)
        exact ih x2_12 x3_14 t_pickedSum t_picks_13 t_strides_10 t_sums t_counts (by omega) (by omega) h_t_picks_13 h_t_strides_10 (Or.inr (Or.inr (Or.inl ⟨by omega, by omega⟩))) (by omega)
      · have h_t_strides_10 := st_upd h_t_strides e4 ⟨by omega, fun q => absurd q (by omega), fun q => absurd q (by omega), fun _ => by omega, fun q => absurd q (by omega)⟩
        have hp := mul_c (A := 16) (B := 4) (C := 64) ⟨h_x2.1, c.2⟩ hv11 (by decide) (by decide) (by decide)
        exact ih x2_12 x3_14 t_pickedSum t_picks_13 t_strides_10 t_sums t_counts (by omega) (by omega) h_t_picks_13 h_t_strides_10 (Or.inr (Or.inr (Or.inr (Or.inl ⟨by omega, by omega⟩)))) (by omega)
      · have h_t_strides_10 := st_upd h_t_strides e4 ⟨by omega, fun q => absurd q (by omega), fun q => absurd q (by omega), fun q => absurd q (by omega), fun _ => by omega⟩
        have hp := mul_c (A := 64) (B := 4) (C := 256) ⟨h_x2.1, c.2⟩ hv11 (by decide) (by decide) (by decide)
        exact ih x2_12 x3_14 t_pickedSum t_picks_13 t_strides_10 t_sums t_counts (by omega) (by omega) h_t_picks_13 h_t_strides_10 (Or.inr (Or.inr (Or.inr (Or.inr (⟨by omega, by omega⟩))))) (by omega)
      · exfalso; omega
theorem s_X7_fillTable (a1 : Int32) (t_sign : Int32) (t_pickedSum : Int32) (t_net_loads : Nat → Int32) (t_net_near : Nat → Int32) (t_net_ties : Nat → Int32) (t_law_factors : Nat → Int32) (t_law_pairFactors : Nat → Int32) (t_law_barred : Nat → Int32) (t_plan_knots : Nat → Int32) (t_plan_others : Nat → Int32) (t_plan_otherCount : Nat → Int32) (t_plan_feeders : Nat → Int32) (t_plan_feederCount : Nat → Int32) (t_openStates : Nat → Int32) (t_openCount : Nat → Int32) (t_picks : Nat → Int32) (t_strides : Nat → Int32) (t_sums : Nat → Int32) (t_counts : Nat → Int32) (h_a1 : 0 ≤ a1.toInt ∧ a1.toInt ≤ 13) (h_t_plan_knots : ∀ i, 0 ≤ (t_plan_knots i).toInt ∧ (t_plan_knots i).toInt ≤ 13) (h_t_plan_others : ∀ i, 0 ≤ (t_plan_others i).toInt ∧ (t_plan_others i).toInt ≤ 13) (h_t_plan_otherCount : ∀ i, 0 ≤ (t_plan_otherCount i).toInt ∧ (t_plan_otherCount i).toInt ≤ 4) (h_t_plan_feeders : ∀ i, 0 ≤ (t_plan_feeders i).toInt ∧ (t_plan_feeders i).toInt ≤ 13) (h_t_plan_feederCount : ∀ i, 0 ≤ (t_plan_feederCount i).toInt ∧ (t_plan_feederCount i).toInt ≤ 14) (h_t_openStates : ∀ i, 0 ≤ (t_openStates i).toInt ∧ (t_openStates i).toInt ≤ 3) (h_t_openCount : ∀ i, 0 ≤ (t_openCount i).toInt ∧ (t_openCount i).toInt ≤ 4) (h_t_picks : ∀ i, 0 ≤ (t_picks i).toInt ∧ (t_picks i).toInt ≤ 3) (h_t_strides : ST t_strides) : Sat (f_X7_fillTable a1 t_sign t_pickedSum t_net_loads t_net_near t_net_ties t_law_factors t_law_pairFactors t_law_barred t_plan_knots t_plan_others t_plan_otherCount t_plan_feeders t_plan_feederCount t_openStates t_openCount t_picks t_strides t_sums t_counts) (fun r => (∀ i, 0 ≤ ((r.2.1) i).toInt ∧ ((r.2.1) i).toInt ≤ 3) ∧ (ST (r.2.2.1)) ∧ True) := by
  unfold f_X7_fillTable
  have l1 : (1 : Int32).toInt = 1 := rfl
  have l4 : (4 : Int32).toInt = 4 := rfl
  refine sat_bnd fun x2_1 e1 => ?_
  have te1 := congrArg Int32.toInt e1
  refine sat_bnd fun x3_2 e2 => ?_
  try (have k3 : (a1 * (4 : Int32)).toInt = a1.toInt * 4 := ti_mulc rfl (by omega))
  have te2 := congrArg Int32.toInt e2
  have hNN := NN_i
  exact l_X7_fillTable_6 a1 t_sign t_net_loads t_net_near t_net_ties t_law_factors t_law_pairFactors t_law_barred t_plan_knots t_plan_others t_plan_otherCount t_plan_feeders t_plan_feederCount t_openStates t_openCount (by omega) h_t_plan_knots h_t_plan_others h_t_plan_otherCount h_t_plan_feeders h_t_plan_feederCount h_t_openStates h_t_openCount NN x2_1 x3_2 t_pickedSum t_picks t_strides t_sums t_counts (by omega) (by omega) h_t_picks h_t_strides (by omega) (by omega)
theorem j_X7_sweepAgain_85 (t_sign : Int32) (t_open : Nat → Int32) (t_net_size : Int32) (t_net_loads : Nat → Int32) (t_net_near : Nat → Int32) (t_net_ties : Nat → Int32) (t_law_size : Int32) (t_law_factors : Nat → Int32) (t_law_pairFactors : Nat → Int32) (t_law_barred : Nat → Int32) (t_plan_size : Int32) (t_plan_knots : Nat → Int32) (t_plan_others : Nat → Int32) (t_plan_otherCount : Nat → Int32) (t_plan_scopes : Nat → Int32) (t_plan_users : Nat → Int32) (t_plan_feeders : Nat → Int32) (t_plan_feederCount : Nat → Int32) (k_104 : Int32 → Int32 → Int32 → Int32 → Int32 → Int32 → (Nat → Int32) → (Nat → Int32) → (Nat → Int32) → (Nat → Int32) → (Nat → Int32) → (Nat → Int32) → Option (Int32 × Int32 × Int32 × Int32 × (Nat → Int32) × (Nat → Int32) × (Nat → Int32) × (Nat → Int32) × (Nat → Int32) × (Nat → Int32))) (g_49 : Int) (h_t_net_size : 0 ≤ t_net_size.toInt ∧ t_net_size.toInt ≤ 14) (h_t_law_size : 1 ≤ t_law_size.toInt ∧ t_law_size.toInt ≤ 4) (h_t_plan_size : 0 ≤ t_plan_size.toInt ∧ t_plan_size.toInt ≤ 14) (h_t_plan_knots : ∀ i, 0 ≤ (t_plan_knots i).toInt ∧ (t_plan_knots i).toInt ≤ 13) (h_t_plan_others : ∀ i, 0 ≤ (t_plan_others i).toInt ∧ (t_plan_others i).toInt ≤ 13) (h_t_plan_otherCount : ∀ i, 0 ≤ (t_plan_otherCount i).toInt ∧ (t_plan_otherCount i).toInt ≤ 4) (h_t_plan_feeders : ∀ i, 0 ≤ (t_plan_feeders i).toInt ∧ (t_plan_feeders i).toInt ≤ 13) (h_t_plan_feederCount : ∀ i, 0 ≤ (t_plan_feederCount i).toInt ∧ (t_plan_feederCount i).toInt ≤ 14) (hk_104 : ∀ (x1 : Int32) (x2 : Int32) (t_sum : Int32) (t_many : Int32) (t_changed : Int32) (t_pickedSum : Int32) (t_openStates : Nat → Int32) (t_openCount : Nat → Int32) (t_picks : Nat → Int32) (t_strides : Nat → Int32) (t_sums : Nat → Int32) (t_counts : Nat → Int32), (0 ≤ x2.toInt ∧ x2.toInt ≤ 13) → (∀ i, 0 ≤ (t_openStates i).toInt ∧ (t_openStates i).toInt ≤ 3) → (∀ i, 0 ≤ (t_openCount i).toInt ∧ (t_openCount i).toInt ≤ 4) → (∀ i, 0 ≤ (t_picks i).toInt ∧ (t_picks i).toInt ≤ 3) → (ST t_strides) → (14 - x2.toInt ≤ g_49) → Sat (k_104 x1 x2 t_sum t_many t_changed t_pickedSum t_openStates t_openCount t_picks t_strides t_sums t_counts) (fun r => (∀ i, 0 ≤ ((r.2.2.2.2.1) i).toInt ∧ ((r.2.2.2.2.1) i).toInt ≤ 3) ∧ (∀ i, 0 ≤ ((r.2.2.2.2.2.1) i).toInt ∧ ((r.2.2.2.2.2.1) i).toInt ≤ 4) ∧ (∀ i, 0 ≤ ((r.2.2.2.2.2.2.1) i).toInt ∧ ((r.2.2.2.2.2.2.1) i).toInt ≤ 3) ∧ (ST (r.2.2.2.2.2.2.2.1)) ∧ True)) : ∀ (x1 : Int32) (x2 : Int32) (t_sum : Int32) (t_many : Int32) (t_changed : Int32) (t_pickedSum : Int32) (t_openStates : Nat → Int32) (t_openCount : Nat → Int32) (t_picks : Nat → Int32) (t_strides : Nat → Int32) (t_sums : Nat → Int32) (t_counts : Nat → Int32), (0 ≤ x2.toInt ∧ x2.toInt ≤ 13) → (∀ i, 0 ≤ (t_openStates i).toInt ∧ (t_openStates i).toInt ≤ 3) → (∀ i, 0 ≤ (t_openCount i).toInt ∧ (t_openCount i).toInt ≤ 4) → (∀ i, 0 ≤ (t_picks i).toInt ∧ (t_picks i).toInt ≤ 3) → (ST t_strides) → (14 - x2.toInt ≤ g_49) → Sat (J_X7_sweepAgain_85 t_sign t_open t_net_size t_net_loads t_net_near t_net_ties t_law_size t_law_factors t_law_pairFactors t_law_barred t_plan_size t_plan_knots t_plan_others t_plan_otherCount t_plan_scopes t_plan_users t_plan_feeders t_plan_feederCount k_104 x1 x2 t_sum t_many t_changed t_pickedSum t_openStates t_openCount t_picks t_strides t_sums t_counts) (fun r => (∀ i, 0 ≤ ((r.2.2.2.2.1) i).toInt ∧ ((r.2.2.2.2.1) i).toInt ≤ 3) ∧ (∀ i, 0 ≤ ((r.2.2.2.2.2.1) i).toInt ∧ ((r.2.2.2.2.2.1) i).toInt ≤ 4) ∧ (∀ i, 0 ≤ ((r.2.2.2.2.2.2.1) i).toInt ∧ ((r.2.2.2.2.2.2.1) i).toInt ≤ 3) ∧ (ST (r.2.2.2.2.2.2.2.1)) ∧ True) := by
  intro x1 x2 t_sum t_many t_changed t_pickedSum t_openStates t_openCount t_picks t_strides t_sums t_counts h_x2 h_t_openStates h_t_openCount h_t_picks h_t_strides hg_49
  unfold J_X7_sweepAgain_85
  refine sat_cal (s_X7_fillTable x2 t_sign t_pickedSum t_net_loads t_net_near t_net_ties t_law_factors t_law_pairFactors t_law_barred t_plan_knots t_plan_others t_plan_otherCount t_plan_feeders t_plan_feederCount t_openStates t_openCount t_picks t_strides t_sums t_counts (by omega) h_t_plan_knots h_t_plan_others h_t_plan_otherCount h_t_plan_feeders h_t_plan_feederCount h_t_openStates h_t_openCount h_t_picks h_t_strides) fun u8 hu8 => ?_
  obtain ⟨hu8_1, hu8_2, -⟩ := hu8
  refine sat_ldA (okI_of (by omega)) fun v9 e1 => ?_
  refine sat_bnd fun x1_10 e2 => ?_
  exact hk_104 x1_10 x2 t_sum t_many t_changed u8.1 t_openStates t_openCount u8.2.1 u8.2.2.1 u8.2.2.2.1 u8.2.2.2.2 (by omega) h_t_openStates h_t_openCount hu8_1 hu8_2 (by omega)
theorem j_X7_sweepAgain_104 (t_sign : Int32) (t_open : Nat → Int32) (t_net_size : Int32) (t_net_loads : Nat → Int32) (t_net_near : Nat → Int32) (t_net_ties : Nat → Int32) (t_law_size : Int32) (t_law_factors : Nat → Int32) (t_law_pairFactors : Nat → Int32) (t_law_barred : Nat → Int32) (t_plan_size : Int32) (t_plan_knots : Nat → Int32) (t_plan_others : Nat → Int32) (t_plan_otherCount : Nat → Int32) (t_plan_scopes : Nat → Int32) (t_plan_users : Nat → Int32) (t_plan_feeders : Nat → Int32) (t_plan_feederCount : Nat → Int32) (k_49 : Int32 → Int32 → Int32 → Int32 → Int32 → Int32 → (Nat → Int32) → (Nat → Int32) → (Nat → Int32) → (Nat → Int32) → (Nat → Int32) → (Nat → Int32) → Option (Int32 × Int32 × Int32 × Int32 × (Nat → Int32) × (Nat → Int32) × (Nat → Int32) × (Nat → Int32) × (Nat → Int32) × (Nat → Int32))) (g_49 : Int) (h_t_net_size : 0 ≤ t_net_size.toInt ∧ t_net_size.toInt ≤ 14) (h_t_law_size : 1 ≤ t_law_size.toInt ∧ t_law_size.toInt ≤ 4) (h_t_plan_size : 0 ≤ t_plan_size.toInt ∧ t_plan_size.toInt ≤ 14) (h_t_plan_knots : ∀ i, 0 ≤ (t_plan_knots i).toInt ∧ (t_plan_knots i).toInt ≤ 13) (h_t_plan_others : ∀ i, 0 ≤ (t_plan_others i).toInt ∧ (t_plan_others i).toInt ≤ 13) (h_t_plan_otherCount : ∀ i, 0 ≤ (t_plan_otherCount i).toInt ∧ (t_plan_otherCount i).toInt ≤ 4) (h_t_plan_feeders : ∀ i, 0 ≤ (t_plan_feeders i).toInt ∧ (t_plan_feeders i).toInt ≤ 13) (h_t_plan_feederCount : ∀ i, 0 ≤ (t_plan_feederCount i).toInt ∧ (t_plan_feederCount i).toInt ≤ 14) (hk_49 : ∀ (x1 : Int32) (x2 : Int32) (t_sum : Int32) (t_many : Int32) (t_changed : Int32) (t_pickedSum : Int32) (t_openStates : Nat → Int32) (t_openCount : Nat → Int32) (t_picks : Nat → Int32) (t_strides : Nat → Int32) (t_sums : Nat → Int32) (t_counts : Nat → Int32), (0 ≤ x2.toInt ∧ x2.toInt ≤ 14) → (∀ i, 0 ≤ (t_openStates i).toInt ∧ (t_openStates i).toInt ≤ 3) → (∀ i, 0 ≤ (t_openCount i).toInt ∧ (t_openCount i).toInt ≤ 4) → (∀ i, 0 ≤ (t_picks i).toInt ∧ (t_picks i).toInt ≤ 3) → (ST t_strides) → (14 - x2.toInt < g_49) → Sat (k_49 x1 x2 t_sum t_many t_changed t_pickedSum t_openStates t_openCount t_picks t_strides t_sums t_counts) (fun r => (∀ i, 0 ≤ ((r.2.2.2.2.1) i).toInt ∧ ((r.2.2.2.2.1) i).toInt ≤ 3) ∧ (∀ i, 0 ≤ ((r.2.2.2.2.2.1) i).toInt ∧ ((r.2.2.2.2.2.1) i).toInt ≤ 4) ∧ (∀ i, 0 ≤ ((r.2.2.2.2.2.2.1) i).toInt ∧ ((r.2.2.2.2.2.2.1) i).toInt ≤ 3) ∧ (ST (r.2.2.2.2.2.2.2.1)) ∧ True)) : ∀ (x1 : Int32) (x2 : Int32) (t_sum : Int32) (t_many : Int32) (t_changed : Int32) (t_pickedSum : Int32) (t_openStates : Nat → Int32) (t_openCount : Nat → Int32) (t_picks : Nat → Int32) (t_strides : Nat → Int32) (t_sums : Nat → Int32) (t_counts : Nat → Int32), (0 ≤ x2.toInt ∧ x2.toInt ≤ 13) → (∀ i, 0 ≤ (t_openStates i).toInt ∧ (t_openStates i).toInt ≤ 3) → (∀ i, 0 ≤ (t_openCount i).toInt ∧ (t_openCount i).toInt ≤ 4) → (∀ i, 0 ≤ (t_picks i).toInt ∧ (t_picks i).toInt ≤ 3) → (ST t_strides) → (14 - x2.toInt ≤ g_49) → Sat (J_X7_sweepAgain_104 t_sign t_open t_net_size t_net_loads t_net_near t_net_ties t_law_size t_law_factors t_law_pairFactors t_law_barred t_plan_size t_plan_knots t_plan_others t_plan_otherCount t_plan_scopes t_plan_users t_plan_feeders t_plan_feederCount k_49 x1 x2 t_sum t_many t_changed t_pickedSum t_openStates t_openCount t_picks t_strides t_sums t_counts) (fun r => (∀ i, 0 ≤ ((r.2.2.2.2.1) i).toInt ∧ ((r.2.2.2.2.1) i).toInt ≤ 3) ∧ (∀ i, 0 ≤ ((r.2.2.2.2.2.1) i).toInt ∧ ((r.2.2.2.2.2.1) i).toInt ≤ 4) ∧ (∀ i, 0 ≤ ((r.2.2.2.2.2.2.1) i).toInt ∧ ((r.2.2.2.2.2.2.1) i).toInt ≤ 3) ∧ (ST (r.2.2.2.2.2.2.2.1)) ∧ True) := by
  intro x1 x2 t_sum t_many t_changed t_pickedSum t_openStates t_openCount t_picks t_strides t_sums t_counts h_x2 h_t_openStates h_t_openCount h_t_picks h_t_strides hg_49
  unfold J_X7_sweepAgain_104
  have l0 : (0 : Int32).toInt = 0 := rfl
  have l256 : (256 : Int32).toInt = 256 := rfl
  have l1 : (1 : Int32).toInt = 1 := rfl
  refine sat_ldA (okI_of (by omega)) fun v11 e1 => ?_
  have hv11 := ra_get e1 h_t_plan_otherCount
  refine sat_ite (fun hc2 => ?_) (fun hc2 => ?_)
  · have thc2 := ple hc2
    try (have k4 : (x2 * (256 : Int32)).toInt = x2.toInt * 256 := ti_mulc rfl (by omega))
    refine sat_ldA (okI_of (by omega)) fun v12 e3 => ?_
    refine sat_bnd fun t_sum_13 e5 => ?_
    try (have k6 : (t_sum + v12).toInt = t_sum.toInt + v12.toInt := ti_add (by omega) (by omega))
    have te5 := congrArg Int32.toInt e5
    refine sat_ldA (okI_of (by omega)) fun v14 e7 => ?_
    refine sat_bnd fun t_many_15 e8 => ?_
    have te8 := congrArg Int32.toInt e8
    refine sat_bnd fun x2_16 e10 => ?_
    try (have k11 : (x2 + (1 : Int32)).toInt = x2.toInt + (1 : Int32).toInt := ti_add (by omega) (by omega))
    have te10 := congrArg Int32.toInt e10
    exact hk_49 x1 x2_16 t_sum_13 t_many_15 t_changed t_pickedSum t_openStates t_openCount t_picks t_strides t_sums t_counts (by omega) h_t_openStates h_t_openCount h_t_picks h_t_strides (by omega)
  · have thc2 := nle hc2
    refine sat_bnd fun x2_17 e12 => ?_
    try (have k13 : (x2 + (1 : Int32)).toInt = x2.toInt + (1 : Int32).toInt := ti_add (by omega) (by omega))
    have te12 := congrArg Int32.toInt e12
    exact hk_49 x1 x2_17 t_sum t_many t_changed t_pickedSum t_openStates t_openCount t_picks t_strides t_sums t_counts (by omega) h_t_openStates h_t_openCount h_t_picks h_t_strides (by omega)
theorem l_X7_sweepAgain_49 (t_sign : Int32) (t_open : Nat → Int32) (t_net_size : Int32) (t_net_loads : Nat → Int32) (t_net_near : Nat → Int32) (t_net_ties : Nat → Int32) (t_law_size : Int32) (t_law_factors : Nat → Int32) (t_law_pairFactors : Nat → Int32) (t_law_barred : Nat → Int32) (t_plan_size : Int32) (t_plan_knots : Nat → Int32) (t_plan_others : Nat → Int32) (t_plan_otherCount : Nat → Int32) (t_plan_scopes : Nat → Int32) (t_plan_users : Nat → Int32) (t_plan_feeders : Nat → Int32) (t_plan_feederCount : Nat → Int32) (h_t_net_size : 0 ≤ t_net_size.toInt ∧ t_net_size.toInt ≤ 14) (h_t_law_size : 1 ≤ t_law_size.toInt ∧ t_law_size.toInt ≤ 4) (h_t_plan_size : 0 ≤ t_plan_size.toInt ∧ t_plan_size.toInt ≤ 14) (h_t_plan_knots : ∀ i, 0 ≤ (t_plan_knots i).toInt ∧ (t_plan_knots i).toInt ≤ 13) (h_t_plan_others : ∀ i, 0 ≤ (t_plan_others i).toInt ∧ (t_plan_others i).toInt ≤ 13) (h_t_plan_otherCount : ∀ i, 0 ≤ (t_plan_otherCount i).toInt ∧ (t_plan_otherCount i).toInt ≤ 4) (h_t_plan_feeders : ∀ i, 0 ≤ (t_plan_feeders i).toInt ∧ (t_plan_feeders i).toInt ≤ 13) (h_t_plan_feederCount : ∀ i, 0 ≤ (t_plan_feederCount i).toInt ∧ (t_plan_feederCount i).toInt ≤ 14) : ∀ (n : Nat) (x1 : Int32) (x2 : Int32) (t_sum : Int32) (t_many : Int32) (t_changed : Int32) (t_pickedSum : Int32) (t_openStates : Nat → Int32) (t_openCount : Nat → Int32) (t_picks : Nat → Int32) (t_strides : Nat → Int32) (t_sums : Nat → Int32) (t_counts : Nat → Int32), (0 ≤ x2.toInt ∧ x2.toInt ≤ 14) → (∀ i, 0 ≤ (t_openStates i).toInt ∧ (t_openStates i).toInt ≤ 3) → (∀ i, 0 ≤ (t_openCount i).toInt ∧ (t_openCount i).toInt ≤ 4) → (∀ i, 0 ≤ (t_picks i).toInt ∧ (t_picks i).toInt ≤ 3) → (ST t_strides) → 14 - x2.toInt < (n : Int) → Sat (L_X7_sweepAgain_49 t_sign t_open t_net_size t_net_loads t_net_near t_net_ties t_law_size t_law_factors t_law_pairFactors t_law_barred t_plan_size t_plan_knots t_plan_others t_plan_otherCount t_plan_scopes t_plan_users t_plan_feeders t_plan_feederCount n x1 x2 t_sum t_many t_changed t_pickedSum t_openStates t_openCount t_picks t_strides t_sums t_counts) (fun r => (∀ i, 0 ≤ ((r.2.2.2.2.1) i).toInt ∧ ((r.2.2.2.2.1) i).toInt ≤ 3) ∧ (∀ i, 0 ≤ ((r.2.2.2.2.2.1) i).toInt ∧ ((r.2.2.2.2.2.1) i).toInt ≤ 4) ∧ (∀ i, 0 ≤ ((r.2.2.2.2.2.2.1) i).toInt ∧ ((r.2.2.2.2.2.2.1) i).toInt ≤ 3) ∧ (ST (r.2.2.2.2.2.2.2.1)) ∧ True) := by
  intro n
  induction n with
  | zero => intro x1 x2 t_sum t_many t_changed t_pickedSum t_openStates t_openCount t_picks t_strides t_sums t_counts h_x2 h_t_openStates h_t_openCount h_t_picks h_t_strides hM; exfalso; omega
  | succ n ih =>
    intro x1 x2 t_sum t_many t_changed t_pickedSum t_openStates t_openCount t_picks t_strides t_sums t_counts h_x2 h_t_openStates h_t_openCount h_t_picks h_t_strides hM
    rw [L_X7_sweepAgain_49]
    have l0 : (0 : Int32).toInt = 0 := rfl
    refine sat_ite (fun hc1 => ?_) (fun hc1 => ?_)
    · have thc1 := ple hc1
      refine sat_bnd fun t_changed_6 e2 => ?_
      have te2 := congrArg Int32.toInt e2
      exact sat_some ⟨h_t_openStates, h_t_openCount, h_t_picks, h_t_strides, trivial⟩
    · have thc1 := nle hc1
      refine sat_ldA (okI_of (by omega)) fun v7 e3 => ?_
      refine sat_ite (fun hc4 => ?_) (fun hc4 => ?_)
      · have thc4 := congrArg Int32.toInt hc4
        refine sat_cal (s_X8_hasBit x1 x2) fun u18 hu18 => ?_
        obtain ⟨hu18_0, -⟩ := hu18
        refine sat_ite (fun hc5 => ?_) (fun hc5 => ?_)
        · have thc5 := congrArg Int32.toInt hc5
          exact j_X7_sweepAgain_104 t_sign t_open t_net_size t_net_loads t_net_near t_net_ties t_law_size t_law_factors t_law_pairFactors t_law_barred t_plan_size t_plan_knots t_plan_others t_plan_otherCount t_plan_scopes t_plan_users t_plan_feeders t_plan_feederCount (fun y0 y1 y2 y3 y4 y5 y6 y7 y8 y9 y10 y11 => L_X7_sweepAgain_49 t_sign t_open t_net_size t_net_loads t_net_near t_net_ties t_law_size t_law_factors t_law_pairFactors t_law_barred t_plan_size t_plan_knots t_plan_others t_plan_otherCount t_plan_scopes t_plan_users t_plan_feeders t_plan_feederCount n y0 y1 y2 y3 y4 y5 y6 y7 y8 y9 y10 y11) (n : Int) (by omega) (by omega) (by omega) h_t_plan_knots h_t_plan_others h_t_plan_otherCount h_t_plan_feeders h_t_plan_feederCount (fun y0 y1 y2 y3 y4 y5 y6 y7 y8 y9 y10 y11 z0 z1 z2 z3 z4 zm => ih y0 y1 y2 y3 y4 y5 y6 y7 y8 y9 y10 y11 z0 z1 z2 z3 z4 zm) x1 x2 t_sum t_many t_changed t_pickedSum t_openStates t_openCount t_picks t_strides t_sums t_counts (by omega) h_t_openStates h_t_openCount h_t_picks h_t_strides (by omega)
        · have thc5 := neq hc5
          exact j_X7_sweepAgain_85 t_sign t_open t_net_size t_net_loads t_net_near t_net_ties t_law_size t_law_factors t_law_pairFactors t_law_barred t_plan_size t_plan_knots t_plan_others t_plan_otherCount t_plan_scopes t_plan_users t_plan_feeders t_plan_feederCount (fun y0 y1 y2 y3 y4 y5 y6 y7 y8 y9 y10 y11 => J_X7_sweepAgain_104 t_sign t_open t_net_size t_net_loads t_net_near t_net_ties t_law_size t_law_factors t_law_pairFactors t_law_barred t_plan_size t_plan_knots t_plan_others t_plan_otherCount t_plan_scopes t_plan_users t_plan_feeders t_plan_feederCount (fun y0 y1 y2 y3 y4 y5 y6 y7 y8 y9 y10 y11 => L_X7_sweepAgain_49 t_sign t_open t_net_size t_net_loads t_net_near t_net_ties t_law_size t_law_factors t_law_pairFactors t_law_barred t_plan_size t_plan_knots t_plan_others t_plan_otherCount t_plan_scopes t_plan_users t_plan_feeders t_plan_feederCount n y0 y1 y2 y3 y4 y5 y6 y7 y8 y9 y10 y11) y0 y1 y2 y3 y4 y5 y6 y7 y8 y9 y10 y11) (n : Int) (by omega) (by omega) (by omega) h_t_plan_knots h_t_plan_others h_t_plan_otherCount h_t_plan_feeders h_t_plan_feederCount (fun y0 y1 y2 y3 y4 y5 y6 y7 y8 y9 y10 y11 z0 z1 z2 z3 z4 z5 => j_X7_sweepAgain_104 t_sign t_open t_net_size t_net_loads t_net_near t_net_ties t_law_size t_law_factors t_law_pairFactors t_law_barred t_plan_size t_plan_knots t_plan_others t_plan_otherCount t_plan_scopes t_plan_users t_plan_feeders t_plan_feederCount (fun y0 y1 y2 y3 y4 y5 y6 y7 y8 y9 y10 y11 => L_X7_sweepAgain_49 t_sign t_open t_net_size t_net_loads t_net_near t_net_ties t_law_size t_law_factors t_law_pairFactors t_law_barred t_plan_size t_plan_knots t_plan_others t_plan_otherCount t_plan_scopes t_plan_users t_plan_feeders t_plan_feederCount n y0 y1 y2 y3 y4 y5 y6 y7 y8 y9 y10 y11) (n : Int) (by omega) (by omega) (by omega) h_t_plan_knots h_t_plan_others h_t_plan_otherCount h_t_plan_feeders h_t_plan_feederCount (fun y0 y1 y2 y3 y4 y5 y6 y7 y8 y9 y10 y11 z0 z1 z2 z3 z4 zm => ih y0 y1 y2 y3 y4 y5 y6 y7 y8 y9 y10 y11 z0 z1 z2 z3 z4 zm) y0 y1 y2 y3 y4 y5 y6 y7 y8 y9 y10 y11 (by omega) z1 z2 z3 z4 (by omega)) x1 x2 t_sum t_many t_changed t_pickedSum t_openStates t_openCount t_picks t_strides t_sums t_counts (by omega) h_t_openStates h_t_openCount h_t_picks h_t_strides (by omega)
      · have thc4 := neq hc4
        exact j_X7_sweepAgain_85 t_sign t_open t_net_size t_net_loads t_net_near t_net_ties t_law_size t_law_factors t_law_pairFactors t_law_barred t_plan_size t_plan_knots t_plan_others t_plan_otherCount t_plan_scopes t_plan_users t_plan_feeders t_plan_feederCount (fun y0 y1 y2 y3 y4 y5 y6 y7 y8 y9 y10 y11 => J_X7_sweepAgain_104 t_sign t_open t_net_size t_net_loads t_net_near t_net_ties t_law_size t_law_factors t_law_pairFactors t_law_barred t_plan_size t_plan_knots t_plan_others t_plan_otherCount t_plan_scopes t_plan_users t_plan_feeders t_plan_feederCount (fun y0 y1 y2 y3 y4 y5 y6 y7 y8 y9 y10 y11 => L_X7_sweepAgain_49 t_sign t_open t_net_size t_net_loads t_net_near t_net_ties t_law_size t_law_factors t_law_pairFactors t_law_barred t_plan_size t_plan_knots t_plan_others t_plan_otherCount t_plan_scopes t_plan_users t_plan_feeders t_plan_feederCount n y0 y1 y2 y3 y4 y5 y6 y7 y8 y9 y10 y11) y0 y1 y2 y3 y4 y5 y6 y7 y8 y9 y10 y11) (n : Int) (by omega) (by omega) (by omega) h_t_plan_knots h_t_plan_others h_t_plan_otherCount h_t_plan_feeders h_t_plan_feederCount (fun y0 y1 y2 y3 y4 y5 y6 y7 y8 y9 y10 y11 z0 z1 z2 z3 z4 z5 => j_X7_sweepAgain_104 t_sign t_open t_net_size t_net_loads t_net_near t_net_ties t_law_size t_law_factors t_law_pairFactors t_law_barred t_plan_size t_plan_knots t_plan_others t_plan_otherCount t_plan_scopes t_plan_users t_plan_feeders t_plan_feederCount (fun y0 y1 y2 y3 y4 y5 y6 y7 y8 y9 y10 y11 => L_X7_sweepAgain_49 t_sign t_open t_net_size t_net_loads t_net_near t_net_ties t_law_size t_law_factors t_law_pairFactors t_law_barred t_plan_size t_plan_knots t_plan_others t_plan_otherCount t_plan_scopes t_plan_users t_plan_feeders t_plan_feederCount n y0 y1 y2 y3 y4 y5 y6 y7 y8 y9 y10 y11) (n : Int) (by omega) (by omega) (by omega) h_t_plan_knots h_t_plan_others h_t_plan_otherCount h_t_plan_feeders h_t_plan_feederCount (fun y0 y1 y2 y3 y4 y5 y6 y7 y8 y9 y10 y11 z0 z1 z2 z3 z4 zm => ih y0 y1 y2 y3 y4 y5 y6 y7 y8 y9 y10 y11 z0 z1 z2 z3 z4 zm) y0 y1 y2 y3 y4 y5 y6 y7 y8 y9 y10 y11 (by omega) z1 z2 z3 z4 (by omega)) x1 x2 t_sum t_many t_changed t_pickedSum t_openStates t_openCount t_picks t_strides t_sums t_counts (by omega) h_t_openStates h_t_openCount h_t_picks h_t_strides (by omega)
theorem l_X7_sweepAgain_2 (t_sign : Int32) (t_open : Nat → Int32) (t_net_size : Int32) (t_net_loads : Nat → Int32) (t_net_near : Nat → Int32) (t_net_ties : Nat → Int32) (t_law_size : Int32) (t_law_factors : Nat → Int32) (t_law_pairFactors : Nat → Int32) (t_law_barred : Nat → Int32) (t_plan_size : Int32) (t_plan_knots : Nat → Int32) (t_plan_others : Nat → Int32) (t_plan_otherCount : Nat → Int32) (t_plan_scopes : Nat → Int32) (t_plan_users : Nat → Int32) (t_plan_feeders : Nat → Int32) (t_plan_feederCount : Nat → Int32) (h_t_net_size : 0 ≤ t_net_size.toInt ∧ t_net_size.toInt ≤ 14) (h_t_law_size : 1 ≤ t_law_size.toInt ∧ t_law_size.toInt ≤ 4) (h_t_plan_size : 0 ≤ t_plan_size.toInt ∧ t_plan_size.toInt ≤ 14) (h_t_plan_knots : ∀ i, 0 ≤ (t_plan_knots i).toInt ∧ (t_plan_knots i).toInt ≤ 13) (h_t_plan_others : ∀ i, 0 ≤ (t_plan_others i).toInt ∧ (t_plan_others i).toInt ≤ 13) (h_t_plan_otherCount : ∀ i, 0 ≤ (t_plan_otherCount i).toInt ∧ (t_plan_otherCount i).toInt ≤ 4) (h_t_plan_feeders : ∀ i, 0 ≤ (t_plan_feeders i).toInt ∧ (t_plan_feeders i).toInt ≤ 13) (h_t_plan_feederCount : ∀ i, 0 ≤ (t_plan_feederCount i).toInt ∧ (t_plan_feederCount i).toInt ≤ 14) : ∀ (n : Nat) (x1 : Int32) (t_sum : Int32) (t_many : Int32) (t_changed : Int32) (t_pickedSum : Int32) (t_openStates : Nat → Int32) (t_openCount : Nat → Int32) (t_picks : Nat → Int32) (t_strides : Nat → Int32) (t_sums : Nat → Int32) (t_counts : Nat → Int32), (0 ≤ x1.toInt ∧ x1.toInt ≤ 14) → (∀ i, 0 ≤ (t_openStates i).toInt ∧ (t_openStates i).toInt ≤ 3) → (∀ i, 0 ≤ (t_openCount i).toInt ∧ (t_openCount i).toInt ≤ 4) → (∀ i, 0 ≤ (t_picks i).toInt ∧ (t_picks i).toInt ≤ 3) → (ST t_strides) → 14 - x1.toInt < (n : Int) → Sat (L_X7_sweepAgain_2 t_sign t_open t_net_size t_net_loads t_net_near t_net_ties t_law_size t_law_factors t_law_pairFactors t_law_barred t_plan_size t_plan_knots t_plan_others t_plan_otherCount t_plan_scopes t_plan_users t_plan_feeders t_plan_feederCount n x1 t_sum t_many t_changed t_pickedSum t_openStates t_openCount t_picks t_strides t_sums t_counts) (fun r => (∀ i, 0 ≤ ((r.2.2.2.2.1) i).toInt ∧ ((r.2.2.2.2.1) i).toInt ≤ 3) ∧ (∀ i, 0 ≤ ((r.2.2.2.2.2.1) i).toInt ∧ ((r.2.2.2.2.2.1) i).toInt ≤ 4) ∧ (∀ i, 0 ≤ ((r.2.2.2.2.2.2.1) i).toInt ∧ ((r.2.2.2.2.2.2.1) i).toInt ≤ 3) ∧ (ST (r.2.2.2.2.2.2.2.1)) ∧ True) := by
  intro n
  induction n with
  | zero => intro x1 t_sum t_many t_changed t_pickedSum t_openStates t_openCount t_picks t_strides t_sums t_counts h_x1 h_t_openStates h_t_openCount h_t_picks h_t_strides hM; exfalso; omega
  | succ n ih =>
    intro x1 t_sum t_many t_changed t_pickedSum t_openStates t_openCount t_picks t_strides t_sums t_counts h_x1 h_t_openStates h_t_openCount h_t_picks h_t_strides hM
    rw [L_X7_sweepAgain_2]
    have l0 : (0 : Int32).toInt = 0 := rfl
    have l1 : (1 : Int32).toInt = 1 := rfl
    refine sat_ite (fun hc1 => ?_) (fun hc1 => ?_)
    · have thc1 := ple hc1
      refine sat_bnd fun t_sum_2 e2 => ?_
      have te2 := congrArg Int32.toInt e2
      refine sat_bnd fun t_many_3 e3 => ?_
      have te3 := congrArg Int32.toInt e3
      refine sat_bnd fun x1_4 e4 => ?_
      have te4 := congrArg Int32.toInt e4
      refine sat_bnd fun x2_5 e5 => ?_
      have te5 := congrArg Int32.toInt e5
      have hNN := NN_i
      exact l_X7_sweepAgain_49 t_sign t_open t_net_size t_net_loads t_net_near t_net_ties t_law_size t_law_factors t_law_pairFactors t_law_barred t_plan_size t_plan_knots t_plan_others t_plan_otherCount t_plan_scopes t_plan_users t_plan_feeders t_plan_feederCount (by omega) (by omega) (by omega) h_t_plan_knots h_t_plan_others h_t_plan_otherCount h_t_plan_feeders h_t_plan_feederCount NN x1_4 x2_5 t_sum_2 t_many_3 t_changed t_pickedSum t_openStates t_openCount t_picks t_strides t_sums t_counts (by omega) h_t_openStates h_t_openCount h_t_picks h_t_strides (by omega)
    · have thc1 := nle hc1
      refine sat_cal (s_X8_hasBit t_changed x1) fun u19 hu19 => ?_
      obtain ⟨hu19_0, -⟩ := hu19
      refine sat_ite (fun hc6 => ?_) (fun hc6 => ?_)
      · have thc6 := congrArg Int32.toInt hc6
        refine sat_bnd fun x1_20 e7 => ?_
        try (have k8 : (x1 + (1 : Int32)).toInt = x1.toInt + (1 : Int32).toInt := ti_add (by omega) (by omega))
        have te7 := congrArg Int32.toInt e7
        exact ih x1_20 t_sum t_many t_changed t_pickedSum t_openStates t_openCount t_picks t_strides t_sums t_counts (by omega) h_t_openStates h_t_openCount h_t_picks h_t_strides (by omega)
      · have thc6 := neq hc6
        refine sat_cal (s_X7_listOpenStates x1 t_open t_law_size t_openStates t_openCount (by omega) (by omega) h_t_openStates h_t_openCount) fun u21 hu21 => ?_
        obtain ⟨hu21_0, hu21_1, -⟩ := hu21
        refine sat_bnd fun x1_22 e9 => ?_
        try (have k10 : (x1 + (1 : Int32)).toInt = x1.toInt + (1 : Int32).toInt := ti_add (by omega) (by omega))
        have te9 := congrArg Int32.toInt e9
        exact ih x1_22 t_sum t_many t_changed t_pickedSum u21.1 u21.2 t_picks t_strides t_sums t_counts (by omega) hu21_0 hu21_1 h_t_picks h_t_strides (by omega)
theorem s_X7_sweepAgain (t_sum : Int32) (t_many : Int32) (t_sign : Int32) (t_changed : Int32) (t_pickedSum : Int32) (t_open : Nat → Int32) (t_net_size : Int32) (t_net_loads : Nat → Int32) (t_net_near : Nat → Int32) (t_net_ties : Nat → Int32) (t_law_size : Int32) (t_law_factors : Nat → Int32) (t_law_pairFactors : Nat → Int32) (t_law_barred : Nat → Int32) (t_plan_size : Int32) (t_plan_knots : Nat → Int32) (t_plan_others : Nat → Int32) (t_plan_otherCount : Nat → Int32) (t_plan_scopes : Nat → Int32) (t_plan_users : Nat → Int32) (t_plan_feeders : Nat → Int32) (t_plan_feederCount : Nat → Int32) (t_openStates : Nat → Int32) (t_openCount : Nat → Int32) (t_picks : Nat → Int32) (t_strides : Nat → Int32) (t_sums : Nat → Int32) (t_counts : Nat → Int32) (h_t_net_size : 0 ≤ t_net_size.toInt ∧ t_net_size.toInt ≤ 14) (h_t_law_size : 1 ≤ t_law_size.toInt ∧ t_law_size.toInt ≤ 4) (h_t_plan_size : 0 ≤ t_plan_size.toInt ∧ t_plan_size.toInt ≤ 14) (h_t_plan_knots : ∀ i, 0 ≤ (t_plan_knots i).toInt ∧ (t_plan_knots i).toInt ≤ 13) (h_t_plan_others : ∀ i, 0 ≤ (t_plan_others i).toInt ∧ (t_plan_others i).toInt ≤ 13) (h_t_plan_otherCount : ∀ i, 0 ≤ (t_plan_otherCount i).toInt ∧ (t_plan_otherCount i).toInt ≤ 4) (h_t_plan_feeders : ∀ i, 0 ≤ (t_plan_feeders i).toInt ∧ (t_plan_feeders i).toInt ≤ 13) (h_t_plan_feederCount : ∀ i, 0 ≤ (t_plan_feederCount i).toInt ∧ (t_plan_feederCount i).toInt ≤ 14) (h_t_openStates : ∀ i, 0 ≤ (t_openStates i).toInt ∧ (t_openStates i).toInt ≤ 3) (h_t_openCount : ∀ i, 0 ≤ (t_openCount i).toInt ∧ (t_openCount i).toInt ≤ 4) (h_t_picks : ∀ i, 0 ≤ (t_picks i).toInt ∧ (t_picks i).toInt ≤ 3) (h_t_strides : ST t_strides) : Sat (f_X7_sweepAgain t_sum t_many t_sign t_changed t_pickedSum t_open t_net_size t_net_loads t_net_near t_net_ties t_law_size t_law_factors t_law_pairFactors t_law_barred t_plan_size t_plan_knots t_plan_others t_plan_otherCount t_plan_scopes t_plan_users t_plan_feeders t_plan_feederCount t_openStates t_openCount t_picks t_strides t_sums t_counts) (fun r => (∀ i, 0 ≤ ((r.2.2.2.2.1) i).toInt ∧ ((r.2.2.2.2.1) i).toInt ≤ 3) ∧ (∀ i, 0 ≤ ((r.2.2.2.2.2.1) i).toInt ∧ ((r.2.2.2.2.2.1) i).toInt ≤ 4) ∧ (∀ i, 0 ≤ ((r.2.2.2.2.2.2.1) i).toInt ∧ ((r.2.2.2.2.2.2.1) i).toInt ≤ 3) ∧ (ST (r.2.2.2.2.2.2.2.1)) ∧ True) := by
  unfold f_X7_sweepAgain
  have l0 : (0 : Int32).toInt = 0 := rfl
  refine sat_bnd fun x1_1 e1 => ?_
  have te1 := congrArg Int32.toInt e1
  have hNN := NN_i
  exact l_X7_sweepAgain_2 t_sign t_open t_net_size t_net_loads t_net_near t_net_ties t_law_size t_law_factors t_law_pairFactors t_law_barred t_plan_size t_plan_knots t_plan_others t_plan_otherCount t_plan_scopes t_plan_users t_plan_feeders t_plan_feederCount (by omega) (by omega) (by omega) h_t_plan_knots h_t_plan_others h_t_plan_otherCount h_t_plan_feeders h_t_plan_feederCount NN x1_1 t_sum t_many t_changed t_pickedSum t_openStates t_openCount t_picks t_strides t_sums t_counts (by omega) h_t_openStates h_t_openCount h_t_picks h_t_strides (by omega)
theorem s_X7_sweep (a1 : Int32) (t_sum : Int32) (t_many : Int32) (t_sign : Int32) (t_changed : Int32) (t_pickedSum : Int32) (t_open : Nat → Int32) (t_net_size : Int32) (t_net_loads : Nat → Int32) (t_net_near : Nat → Int32) (t_net_ties : Nat → Int32) (t_law_size : Int32) (t_law_factors : Nat → Int32) (t_law_pairFactors : Nat → Int32) (t_law_barred : Nat → Int32) (t_plan_size : Int32) (t_plan_knots : Nat → Int32) (t_plan_others : Nat → Int32) (t_plan_otherCount : Nat → Int32) (t_plan_scopes : Nat → Int32) (t_plan_users : Nat → Int32) (t_plan_feeders : Nat → Int32) (t_plan_feederCount : Nat → Int32) (t_openStates : Nat → Int32) (t_openCount : Nat → Int32) (t_picks : Nat → Int32) (t_strides : Nat → Int32) (t_sums : Nat → Int32) (t_counts : Nat → Int32) (h_t_net_size : 0 ≤ t_net_size.toInt ∧ t_net_size.toInt ≤ 14) (h_t_law_size : 1 ≤ t_law_size.toInt ∧ t_law_size.toInt ≤ 4) (h_t_plan_size : 0 ≤ t_plan_size.toInt ∧ t_plan_size.toInt ≤ 14) (h_t_plan_knots : ∀ i, 0 ≤ (t_plan_knots i).toInt ∧ (t_plan_knots i).toInt ≤ 13) (h_t_plan_others : ∀ i, 0 ≤ (t_plan_others i).toInt ∧ (t_plan_others i).toInt ≤ 13) (h_t_plan_otherCount : ∀ i, 0 ≤ (t_plan_otherCount i).toInt ∧ (t_plan_otherCount i).toInt ≤ 4) (h_t_plan_feeders : ∀ i, 0 ≤ (t_plan_feeders i).toInt ∧ (t_plan_feeders i).toInt ≤ 13) (h_t_plan_feederCount : ∀ i, 0 ≤ (t_plan_feederCount i).toInt ∧ (t_plan_feederCount i).toInt ≤ 14) (h_t_openStates : ∀ i, 0 ≤ (t_openStates i).toInt ∧ (t_openStates i).toInt ≤ 3) (h_t_openCount : ∀ i, 0 ≤ (t_openCount i).toInt ∧ (t_openCount i).toInt ≤ 4) (h_t_picks : ∀ i, 0 ≤ (t_picks i).toInt ∧ (t_picks i).toInt ≤ 3) (h_t_strides : ST t_strides) : Sat (f_X7_sweep a1 t_sum t_many t_sign t_changed t_pickedSum t_open t_net_size t_net_loads t_net_near t_net_ties t_law_size t_law_factors t_law_pairFactors t_law_barred t_plan_size t_plan_knots t_plan_others t_plan_otherCount t_plan_scopes t_plan_users t_plan_feeders t_plan_feederCount t_openStates t_openCount t_picks t_strides t_sums t_counts) (fun r => (∀ i, 0 ≤ ((r.2.2.2.2.2.1) i).toInt ∧ ((r.2.2.2.2.2.1) i).toInt ≤ 3) ∧ (∀ i, 0 ≤ ((r.2.2.2.2.2.2.1) i).toInt ∧ ((r.2.2.2.2.2.2.1) i).toInt ≤ 4) ∧ (∀ i, 0 ≤ ((r.2.2.2.2.2.2.2.1) i).toInt ∧ ((r.2.2.2.2.2.2.2.1) i).toInt ≤ 3) ∧ (ST (r.2.2.2.2.2.2.2.2.1)) ∧ True) := by
  unfold f_X7_sweep
  refine sat_bnd fun t_sign_1 e1 => ?_
  have te1 := congrArg Int32.toInt e1
  refine sat_cal (s_X4_everyKnot t_net_size (by omega)) fun u2 hu2 => ?_
  obtain ⟨hu2_0, -⟩ := hu2
  refine sat_bnd fun t_changed_3 e2 => ?_
  have te2 := congrArg Int32.toInt e2
  refine sat_cal (s_X7_sweepAgain t_sum t_many t_sign_1 t_changed_3 t_pickedSum t_open t_net_size t_net_loads t_net_near t_net_ties t_law_size t_law_factors t_law_pairFactors t_law_barred t_plan_size t_plan_knots t_plan_others t_plan_otherCount t_plan_scopes t_plan_users t_plan_feeders t_plan_feederCount t_openStates t_openCount t_picks t_strides t_sums t_counts (by omega) (by omega) (by omega) h_t_plan_knots h_t_plan_others h_t_plan_otherCount h_t_plan_feeders h_t_plan_feederCount h_t_openStates h_t_openCount h_t_picks h_t_strides) fun u4 hu4 => ?_
  obtain ⟨hu4_4, hu4_5, hu4_6, hu4_7, -⟩ := hu4
  exact sat_some ⟨hu4_4, hu4_5, hu4_6, hu4_7, trivial⟩
theorem j_X7_settle_84 (a1 : Int32) (t_sign : Int32) (t_aim : Int32) (t_net_size : Int32) (t_net_loads : Nat → Int32) (t_net_near : Nat → Int32) (t_net_ties : Nat → Int32) (t_law_size : Int32) (t_law_factors : Nat → Int32) (t_law_pairFactors : Nat → Int32) (t_law_barred : Nat → Int32) (t_plan_size : Int32) (t_plan_knots : Nat → Int32) (t_plan_others : Nat → Int32) (t_plan_otherCount : Nat → Int32) (t_plan_scopes : Nat → Int32) (t_plan_users : Nat → Int32) (t_plan_feeders : Nat → Int32) (t_plan_feederCount : Nat → Int32) (k_9 : Int32 → Int32 → Int32 → Int32 → Int32 → Int32 → Int64 → (Nat → Int32) → (Nat → Int32) → (Nat → Int32) → (Nat → Int32) → (Nat → Int32) → (Nat → Int32) → (Nat → Int32) → Option (Int32 × Int32 × Int32 × Int32 × Int32 × Int64 × (Nat → Int32) × (Nat → Int32) × (Nat → Int32) × (Nat → Int32) × (Nat → Int32) × (Nat → Int32) × (Nat → Int32))) (g_9 : Int) (h_a1 : 0 ≤ a1.toInt ∧ a1.toInt ≤ 13) (h_t_net_size : 0 ≤ t_net_size.toInt ∧ t_net_size.toInt ≤ 14) (h_t_law_size : 1 ≤ t_law_size.toInt ∧ t_law_size.toInt ≤ 4) (h_t_plan_size : 0 ≤ t_plan_size.toInt ∧ t_plan_size.toInt ≤ 14) (h_t_plan_knots : ∀ i, 0 ≤ (t_plan_knots i).toInt ∧ (t_plan_knots i).toInt ≤ 13) (h_t_plan_others : ∀ i, 0 ≤ (t_plan_others i).toInt ∧ (t_plan_others i).toInt ≤ 13) (h_t_plan_otherCount : ∀ i, 0 ≤ (t_plan_otherCount i).toInt ∧ (t_plan_otherCount i).toInt ≤ 4) (h_t_plan_feeders : ∀ i, 0 ≤ (t_plan_feeders i).toInt ∧ (t_plan_feeders i).toInt ≤ 13) (h_t_plan_feederCount : ∀ i, 0 ≤ (t_plan_feederCount i).toInt ∧ (t_plan_feederCount i).toInt ≤ 14) (hk_9 : ∀ (x2 : Int32) (x3 : Int32) (t_sum : Int32) (t_many : Int32) (t_changed : Int32) (t_pickedSum : Int32) (t_before : Int64) (t_open : Nat → Int32) (t_openStates : Nat → Int32) (t_openCount : Nat → Int32) (t_picks : Nat → Int32) (t_strides : Nat → Int32) (t_sums : Nat → Int32) (t_counts : Nat → Int32), (0 ≤ x3.toInt ∧ x3.toInt ≤ 4) → (∀ i, 0 ≤ (t_openStates i).toInt ∧ (t_openStates i).toInt ≤ 3) → (∀ i, 0 ≤ (t_openCount i).toInt ∧ (t_openCount i).toInt ≤ 4) → (∀ i, 0 ≤ (t_picks i).toInt ∧ (t_picks i).toInt ≤ 3) → (ST t_strides) → (4 - x3.toInt < g_9) → Sat (k_9 x2 x3 t_sum t_many t_changed t_pickedSum t_before t_open t_openStates t_openCount t_picks t_strides t_sums t_counts) (fun r => (∀ i, 0 ≤ ((r.2.2.2.2.2.2.2.1) i).toInt ∧ ((r.2.2.2.2.2.2.2.1) i).toInt ≤ 3) ∧ (∀ i, 0 ≤ ((r.2.2.2.2.2.2.2.2.1) i).toInt ∧ ((r.2.2.2.2.2.2.2.2.1) i).toInt ≤ 4) ∧ (∀ i, 0 ≤ ((r.2.2.2.2.2.2.2.2.2.1) i).toInt ∧ ((r.2.2.2.2.2.2.2.2.2.1) i).toInt ≤ 3) ∧ (ST (r.2.2.2.2.2.2.2.2.2.2.1)) ∧ True)) : ∀ (x2 : Int32) (x3 : Int32) (s0 : Int32) (t_sum : Int32) (t_many : Int32) (t_changed : Int32) (t_pickedSum : Int32) (t_before : Int64) (t_open : Nat → Int32) (t_openStates : Nat → Int32) (t_openCount : Nat → Int32) (t_picks : Nat → Int32) (t_strides : Nat → Int32) (t_sums : Nat → Int32) (t_counts : Nat → Int32), (0 ≤ x3.toInt ∧ x3.toInt ≤ 3) → (∀ i, 0 ≤ (t_openStates i).toInt ∧ (t_openStates i).toInt ≤ 3) → (∀ i, 0 ≤ (t_openCount i).toInt ∧ (t_openCount i).toInt ≤ 4) → (∀ i, 0 ≤ (t_picks i).toInt ∧ (t_picks i).toInt ≤ 3) → (ST t_strides) → (4 - x3.toInt ≤ g_9) → Sat (J_X7_settle_84 a1 t_sign t_aim t_net_size t_net_loads t_net_near t_net_ties t_law_size t_law_factors t_law_pairFactors t_law_barred t_plan_size t_plan_knots t_plan_others t_plan_otherCount t_plan_scopes t_plan_users t_plan_feeders t_plan_feederCount k_9 x2 x3 s0 t_sum t_many t_changed t_pickedSum t_before t_open t_openStates t_openCount t_picks t_strides t_sums t_counts) (fun r => (∀ i, 0 ≤ ((r.2.2.2.2.2.2.2.1) i).toInt ∧ ((r.2.2.2.2.2.2.2.1) i).toInt ≤ 3) ∧ (∀ i, 0 ≤ ((r.2.2.2.2.2.2.2.2.1) i).toInt ∧ ((r.2.2.2.2.2.2.2.2.1) i).toInt ≤ 4) ∧ (∀ i, 0 ≤ ((r.2.2.2.2.2.2.2.2.2.1) i).toInt ∧ ((r.2.2.2.2.2.2.2.2.2.1) i).toInt ≤ 3) ∧ (ST (r.2.2.2.2.2.2.2.2.2.2.1)) ∧ True) := by
  intro x2 x3 s0 t_sum t_many t_changed t_pickedSum t_before t_open t_openStates t_openCount t_picks t_strides t_sums t_counts h_x3 h_t_openStates h_t_openCount h_t_picks h_t_strides hg_9
  unfold J_X7_settle_84
  have l1 : (1 : Int32).toInt = 1 := rfl
  refine sat_bnd fun x4_8 e1 => ?_
  have te1 := congrArg Int32.toInt e1
  refine sat_ite (fun hc2 => ?_) (fun hc2 => ?_)
  · refine sat_bnd fun t_before_9 e3 => ?_
    refine sat_bnd fun x3_10 e4 => ?_
    try (have k5 : (x3 + (1 : Int32)).toInt = x3.toInt + (1 : Int32).toInt := ti_add (by omega) (by omega))
    have te4 := congrArg Int32.toInt e4
    exact hk_9 x2 x3_10 t_sum t_many t_changed t_pickedSum t_before_9 t_open t_openStates t_openCount t_picks t_strides t_sums t_counts (by omega) h_t_openStates h_t_openCount h_t_picks h_t_strides (by omega)
  · exact sat_some ⟨h_t_openStates, h_t_openCount, h_t_picks, h_t_strides, trivial⟩
theorem l_X7_settle_9 (a1 : Int32) (t_sign : Int32) (t_aim : Int32) (t_net_size : Int32) (t_net_loads : Nat → Int32) (t_net_near : Nat → Int32) (t_net_ties : Nat → Int32) (t_law_size : Int32) (t_law_factors : Nat → Int32) (t_law_pairFactors : Nat → Int32) (t_law_barred : Nat → Int32) (t_plan_size : Int32) (t_plan_knots : Nat → Int32) (t_plan_others : Nat → Int32) (t_plan_otherCount : Nat → Int32) (t_plan_scopes : Nat → Int32) (t_plan_users : Nat → Int32) (t_plan_feeders : Nat → Int32) (t_plan_feederCount : Nat → Int32) (h_a1 : 0 ≤ a1.toInt ∧ a1.toInt ≤ 13) (h_t_net_size : 0 ≤ t_net_size.toInt ∧ t_net_size.toInt ≤ 14) (h_t_law_size : 1 ≤ t_law_size.toInt ∧ t_law_size.toInt ≤ 4) (h_t_plan_size : 0 ≤ t_plan_size.toInt ∧ t_plan_size.toInt ≤ 14) (h_t_plan_knots : ∀ i, 0 ≤ (t_plan_knots i).toInt ∧ (t_plan_knots i).toInt ≤ 13) (h_t_plan_others : ∀ i, 0 ≤ (t_plan_others i).toInt ∧ (t_plan_others i).toInt ≤ 13) (h_t_plan_otherCount : ∀ i, 0 ≤ (t_plan_otherCount i).toInt ∧ (t_plan_otherCount i).toInt ≤ 4) (h_t_plan_feeders : ∀ i, 0 ≤ (t_plan_feeders i).toInt ∧ (t_plan_feeders i).toInt ≤ 13) (h_t_plan_feederCount : ∀ i, 0 ≤ (t_plan_feederCount i).toInt ∧ (t_plan_feederCount i).toInt ≤ 14) : ∀ (n : Nat) (x2 : Int32) (x3 : Int32) (t_sum : Int32) (t_many : Int32) (t_changed : Int32) (t_pickedSum : Int32) (t_before : Int64) (t_open : Nat → Int32) (t_openStates : Nat → Int32) (t_openCount : Nat → Int32) (t_picks : Nat → Int32) (t_strides : Nat → Int32) (t_sums : Nat → Int32) (t_counts : Nat → Int32), (0 ≤ x3.toInt ∧ x3.toInt ≤ 4) → (∀ i, 0 ≤ (t_openStates i).toInt ∧ (t_openStates i).toInt ≤ 3) → (∀ i, 0 ≤ (t_openCount i).toInt ∧ (t_openCount i).toInt ≤ 4) → (∀ i, 0 ≤ (t_picks i).toInt ∧ (t_picks i).toInt ≤ 3) → (ST t_strides) → 4 - x3.toInt < (n : Int) → Sat (L_X7_settle_9 a1 t_sign t_aim t_net_size t_net_loads t_net_near t_net_ties t_law_size t_law_factors t_law_pairFactors t_law_barred t_plan_size t_plan_knots t_plan_others t_plan_otherCount t_plan_scopes t_plan_users t_plan_feeders t_plan_feederCount n x2 x3 t_sum t_many t_changed t_pickedSum t_before t_open t_openStates t_openCount t_picks t_strides t_sums t_counts) (fun r => (∀ i, 0 ≤ ((r.2.2.2.2.2.2.2.1) i).toInt ∧ ((r.2.2.2.2.2.2.2.1) i).toInt ≤ 3) ∧ (∀ i, 0 ≤ ((r.2.2.2.2.2.2.2.2.1) i).toInt ∧ ((r.2.2.2.2.2.2.2.2.1) i).toInt ≤ 4) ∧ (∀ i, 0 ≤ ((r.2.2.2.2.2.2.2.2.2.1) i).toInt ∧ ((r.2.2.2.2.2.2.2.2.2.1) i).toInt ≤ 3) ∧ (ST (r.2.2.2.2.2.2.2.2.2.2.1)) ∧ True) := by
  intro n
  induction n with
  | zero => intro x2 x3 t_sum t_many t_changed t_pickedSum t_before t_open t_openStates t_openCount t_picks t_strides t_sums t_counts h_x3 h_t_openStates h_t_openCount h_t_picks h_t_strides hM; exfalso; omega
  | succ n ih =>
    intro x2 x3 t_sum t_many t_changed t_pickedSum t_before t_open t_openStates t_openCount t_picks t_strides t_sums t_counts h_x3 h_t_openStates h_t_openCount h_t_picks h_t_strides hM
    rw [L_X7_settle_9]
    have l0 : (0 : Int32).toInt = 0 := rfl
    have l1 : (1 : Int32).toInt = 1 := rfl
    refine sat_ite (fun hc1 => ?_) (fun hc1 => ?_)
    · have thc1 := ple hc1
      exact sat_some ⟨h_t_openStates, h_t_openCount, h_t_picks, h_t_strides, trivial⟩
    · have thc1 := nle hc1
      refine sat_cal (s_X8_hasBit x2 x3) fun u4 hu4 => ?_
      obtain ⟨hu4_0, -⟩ := hu4
      refine sat_ite (fun hc2 => ?_) (fun hc2 => ?_)
      · have thc2 := congrArg Int32.toInt hc2
        refine sat_bnd fun x3_11 e3 => ?_
        try (have k4 : (x3 + (1 : Int32)).toInt = x3.toInt + (1 : Int32).toInt := ti_add (by omega) (by omega))
        have te3 := congrArg Int32.toInt e3
        exact ih x2 x3_11 t_sum t_many t_changed t_pickedSum t_before t_open t_openStates t_openCount t_picks t_strides t_sums t_counts (by omega) h_t_openStates h_t_openCount h_t_picks h_t_strides (by omega)
      · have thc2 := neq hc2
        refine sat_stI (okI_of (by omega)) fun t_open_5 e5 => ?_
        refine sat_bnd fun t_changed_6 e6 => ?_
        refine sat_ite (fun hc7 => ?_) (fun hc7 => ?_)
        · have thc7 := congrArg Int32.toInt hc7
          exact sat_some ⟨h_t_openStates, h_t_openCount, h_t_picks, h_t_strides, trivial⟩
        · have thc7 := neq hc7
          refine sat_cal (s_X7_sweepAgain t_sum t_many t_sign t_changed_6 t_pickedSum t_open_5 t_net_size t_net_loads t_net_near t_net_ties t_law_size t_law_factors t_law_pairFactors t_law_barred t_plan_size t_plan_knots t_plan_others t_plan_otherCount t_plan_scopes t_plan_users t_plan_feeders t_plan_feederCount t_openStates t_openCount t_picks t_strides t_sums t_counts (by omega) (by omega) (by omega) h_t_plan_knots h_t_plan_others h_t_plan_otherCount h_t_plan_feeders h_t_plan_feederCount h_t_openStates h_t_openCount h_t_picks h_t_strides) fun u7 hu7 => ?_
          obtain ⟨hu7_4, hu7_5, hu7_6, hu7_7, -⟩ := hu7
          refine sat_ite (fun hc8 => ?_) (fun hc8 => ?_)
          · have thc8 := congrArg Int32.toInt hc8
            exact j_X7_settle_84 a1 t_sign t_aim t_net_size t_net_loads t_net_near t_net_ties t_law_size t_law_factors t_law_pairFactors t_law_barred t_plan_size t_plan_knots t_plan_others t_plan_otherCount t_plan_scopes t_plan_users t_plan_feeders t_plan_feederCount (fun y0 y1 y2 y3 y4 y5 y6 y7 y8 y9 y10 y11 y12 y13 => L_X7_settle_9 a1 t_sign t_aim t_net_size t_net_loads t_net_near t_net_ties t_law_size t_law_factors t_law_pairFactors t_law_barred t_plan_size t_plan_knots t_plan_others t_plan_otherCount t_plan_scopes t_plan_users t_plan_feeders t_plan_feederCount n y0 y1 y2 y3 y4 y5 y6 y7 y8 y9 y10 y11 y12 y13) (n : Int) (by omega) (by omega) (by omega) (by omega) h_t_plan_knots h_t_plan_others h_t_plan_otherCount h_t_plan_feeders h_t_plan_feederCount (fun y0 y1 y2 y3 y4 y5 y6 y7 y8 y9 y10 y11 y12 y13 z0 z1 z2 z3 z4 zm => ih y0 y1 y2 y3 y4 y5 y6 y7 y8 y9 y10 y11 y12 y13 z0 z1 z2 z3 z4 zm) x2 x3 u7.2.1 u7.1 u7.2.1 u7.2.2.1 u7.2.2.2.1 t_before t_open_5 u7.2.2.2.2.1 u7.2.2.2.2.2.1 u7.2.2.2.2.2.2.1 u7.2.2.2.2.2.2.2.1 u7.2.2.2.2.2.2.2.2.1 u7.2.2.2.2.2.2.2.2.2 (by omega) hu7_4 hu7_5 hu7_6 hu7_7 (by omega)
          · have thc8 := neq hc8
            exact j_X7_settle_84 a1 t_sign t_aim t_net_size t_net_loads t_net_near t_net_ties t_law_size t_law_factors t_law_pairFactors t_law_barred t_plan_size t_plan_knots t_plan_others t_plan_otherCount t_plan_scopes t_plan_users t_plan_feeders t_plan_feederCount (fun y0 y1 y2 y3 y4 y5 y6 y7 y8 y9 y10 y11 y12 y13 => L_X7_settle_9 a1 t_sign t_aim t_net_size t_net_loads t_net_near t_net_ties t_law_size t_law_factors t_law_pairFactors t_law_barred t_plan_size t_plan_knots t_plan_others t_plan_otherCount t_plan_scopes t_plan_users t_plan_feeders t_plan_feederCount n y0 y1 y2 y3 y4 y5 y6 y7 y8 y9 y10 y11 y12 y13) (n : Int) (by omega) (by omega) (by omega) (by omega) h_t_plan_knots h_t_plan_others h_t_plan_otherCount h_t_plan_feeders h_t_plan_feederCount (fun y0 y1 y2 y3 y4 y5 y6 y7 y8 y9 y10 y11 y12 y13 z0 z1 z2 z3 z4 zm => ih y0 y1 y2 y3 y4 y5 y6 y7 y8 y9 y10 y11 y12 y13 z0 z1 z2 z3 z4 zm) x2 x3 (0 : Int32) u7.1 u7.2.1 u7.2.2.1 u7.2.2.2.1 t_before t_open_5 u7.2.2.2.2.1 u7.2.2.2.2.2.1 u7.2.2.2.2.2.2.1 u7.2.2.2.2.2.2.2.1 u7.2.2.2.2.2.2.2.2.1 u7.2.2.2.2.2.2.2.2.2 (by omega) hu7_4 hu7_5 hu7_6 hu7_7 (by omega)
theorem s_X7_settle (a1 : Int32) (t_sum : Int32) (t_many : Int32) (t_sign : Int32) (t_changed : Int32) (t_pickedSum : Int32) (t_aim : Int32) (t_before : Int64) (t_open : Nat → Int32) (t_net_size : Int32) (t_net_loads : Nat → Int32) (t_net_near : Nat → Int32) (t_net_ties : Nat → Int32) (t_law_size : Int32) (t_law_factors : Nat → Int32) (t_law_pairFactors : Nat → Int32) (t_law_barred : Nat → Int32) (t_plan_size : Int32) (t_plan_knots : Nat → Int32) (t_plan_others : Nat → Int32) (t_plan_otherCount : Nat → Int32) (t_plan_scopes : Nat → Int32) (t_plan_users : Nat → Int32) (t_plan_feeders : Nat → Int32) (t_plan_feederCount : Nat → Int32) (t_openStates : Nat → Int32) (t_openCount : Nat → Int32) (t_picks : Nat → Int32) (t_strides : Nat → Int32) (t_sums : Nat → Int32) (t_counts : Nat → Int32) (h_a1 : 0 ≤ a1.toInt ∧ a1.toInt ≤ 13) (h_t_net_size : 0 ≤ t_net_size.toInt ∧ t_net_size.toInt ≤ 14) (h_t_law_size : 1 ≤ t_law_size.toInt ∧ t_law_size.toInt ≤ 4) (h_t_plan_size : 0 ≤ t_plan_size.toInt ∧ t_plan_size.toInt ≤ 14) (h_t_plan_knots : ∀ i, 0 ≤ (t_plan_knots i).toInt ∧ (t_plan_knots i).toInt ≤ 13) (h_t_plan_others : ∀ i, 0 ≤ (t_plan_others i).toInt ∧ (t_plan_others i).toInt ≤ 13) (h_t_plan_otherCount : ∀ i, 0 ≤ (t_plan_otherCount i).toInt ∧ (t_plan_otherCount i).toInt ≤ 4) (h_t_plan_feeders : ∀ i, 0 ≤ (t_plan_feeders i).toInt ∧ (t_plan_feeders i).toInt ≤ 13) (h_t_plan_feederCount : ∀ i, 0 ≤ (t_plan_feederCount i).toInt ∧ (t_plan_feederCount i).toInt ≤ 14) (h_t_openStates : ∀ i, 0 ≤ (t_openStates i).toInt ∧ (t_openStates i).toInt ≤ 3) (h_t_openCount : ∀ i, 0 ≤ (t_openCount i).toInt ∧ (t_openCount i).toInt ≤ 4) (h_t_picks : ∀ i, 0 ≤ (t_picks i).toInt ∧ (t_picks i).toInt ≤ 3) (h_t_strides : ST t_strides) : Sat (f_X7_settle a1 t_sum t_many t_sign t_changed t_pickedSum t_aim t_before t_open t_net_size t_net_loads t_net_near t_net_ties t_law_size t_law_factors t_law_pairFactors t_law_barred t_plan_size t_plan_knots t_plan_others t_plan_otherCount t_plan_scopes t_plan_users t_plan_feeders t_plan_feederCount t_openStates t_openCount t_picks t_strides t_sums t_counts) (fun r => (∀ i, 0 ≤ ((r.2.2.2.2.2.2.2.1) i).toInt ∧ ((r.2.2.2.2.2.2.2.1) i).toInt ≤ 3) ∧ (∀ i, 0 ≤ ((r.2.2.2.2.2.2.2.2.1) i).toInt ∧ ((r.2.2.2.2.2.2.2.2.1) i).toInt ≤ 4) ∧ (∀ i, 0 ≤ ((r.2.2.2.2.2.2.2.2.2.1) i).toInt ∧ ((r.2.2.2.2.2.2.2.2.2.1) i).toInt ≤ 3) ∧ (ST (r.2.2.2.2.2.2.2.2.2.2.1)) ∧ True) := by
  unfold f_X7_settle
  have l0 : (0 : Int32).toInt = 0 := rfl
  refine sat_ldA (okI_of (by omega)) fun v1 e1 => ?_
  refine sat_bnd fun x2_2 e2 => ?_
  have te2 := congrArg Int32.toInt e2
  refine sat_bnd fun x3_3 e3 => ?_
  have te3 := congrArg Int32.toInt e3
  have hNN := NN_i
  exact l_X7_settle_9 a1 t_sign t_aim t_net_size t_net_loads t_net_near t_net_ties t_law_size t_law_factors t_law_pairFactors t_law_barred t_plan_size t_plan_knots t_plan_others t_plan_otherCount t_plan_scopes t_plan_users t_plan_feeders t_plan_feederCount (by omega) (by omega) (by omega) (by omega) h_t_plan_knots h_t_plan_others h_t_plan_otherCount h_t_plan_feeders h_t_plan_feederCount NN x2_2 x3_3 t_sum t_many t_changed t_pickedSum t_before t_open t_openStates t_openCount t_picks t_strides t_sums t_counts (by omega) h_t_openStates h_t_openCount h_t_picks h_t_strides (by omega)
theorem l_X7_stateInWay_42 (a1 : Int32) (a2 : Int64) (a4 : Int32) (t_net_size : Int32) (t_net_loads : Nat → Int32) (t_net_near : Nat → Int32) (t_net_ties : Nat → Int32) (t_law_size : Int32) (t_law_factors : Nat → Int32) (t_law_pairFactors : Nat → Int32) (t_law_barred : Nat → Int32) (t_plan_size : Int32) (t_plan_knots : Nat → Int32) (t_plan_others : Nat → Int32) (t_plan_otherCount : Nat → Int32) (t_plan_scopes : Nat → Int32) (t_plan_users : Nat → Int32) (t_plan_feeders : Nat → Int32) (t_plan_feederCount : Nat → Int32) (h_a4 : 0 ≤ a4.toInt ∧ a4.toInt ≤ 13) (h_t_net_size : 0 ≤ t_net_size.toInt ∧ t_net_size.toInt ≤ 14) (h_t_law_size : 1 ≤ t_law_size.toInt ∧ t_law_size.toInt ≤ 4) (h_t_plan_size : 0 ≤ t_plan_size.toInt ∧ t_plan_size.toInt ≤ 14) (h_t_plan_knots : ∀ i, 0 ≤ (t_plan_knots i).toInt ∧ (t_plan_knots i).toInt ≤ 13) (h_t_plan_others : ∀ i, 0 ≤ (t_plan_others i).toInt ∧ (t_plan_others i).toInt ≤ 13) (h_t_plan_otherCount : ∀ i, 0 ≤ (t_plan_otherCount i).toInt ∧ (t_plan_otherCount i).toInt ≤ 4) (h_t_plan_feeders : ∀ i, 0 ≤ (t_plan_feeders i).toInt ∧ (t_plan_feeders i).toInt ≤ 13) (h_t_plan_feederCount : ∀ i, 0 ≤ (t_plan_feederCount i).toInt ∧ (t_plan_feederCount i).toInt ≤ 14) : ∀ (n : Nat) (x5 : Int32) (x6 : Int32) (t_sum : Int32) (t_many : Int32) (t_sign : Int32) (t_changed : Int32) (t_pickedSum : Int32) (t_aim : Int32) (t_before : Int64) (t_open : Nat → Int32) (t_openStates : Nat → Int32) (t_openCount : Nat → Int32) (t_picks : Nat → Int32) (t_strides : Nat → Int32) (t_sums : Nat → Int32) (t_counts : Nat → Int32), (0 ≤ x6.toInt ∧ x6.toInt ≤ 14) → (∀ i, 0 ≤ (t_openStates i).toInt ∧ (t_openStates i).toInt ≤ 3) → (∀ i, 0 ≤ (t_openCount i).toInt ∧ (t_openCount i).toInt ≤ 4) → (∀ i, 0 ≤ (t_picks i).toInt ∧ (t_picks i).toInt ≤ 3) → (ST t_strides) → 14 - x6.toInt < (n : Int) → Sat (L_X7_stateInWay_42 a1 a2 a4 t_net_size t_net_loads t_net_near t_net_ties t_law_size t_law_factors t_law_pairFactors t_law_barred t_plan_size t_plan_knots t_plan_others t_plan_otherCount t_plan_scopes t_plan_users t_plan_feeders t_plan_feederCount n x5 x6 t_sum t_many t_sign t_changed t_pickedSum t_aim t_before t_open t_openStates t_openCount t_picks t_strides t_sums t_counts) (fun r => (∀ i, 0 ≤ ((r.2.2.2.2.2.2.2.2.2.1) i).toInt ∧ ((r.2.2.2.2.2.2.2.2.2.1) i).toInt ≤ 3) ∧ (∀ i, 0 ≤ ((r.2.2.2.2.2.2.2.2.2.2.1) i).toInt ∧ ((r.2.2.2.2.2.2.2.2.2.2.1) i).toInt ≤ 4) ∧ (∀ i, 0 ≤ ((r.2.2.2.2.2.2.2.2.2.2.2.1) i).toInt ∧ ((r.2.2.2.2.2.2.2.2.2.2.2.1) i).toInt ≤ 3) ∧ (ST (r.2.2.2.2.2.2.2.2.2.2.2.2.1)) ∧ True) := by
  intro n
  induction n with
  | zero => intro x5 x6 t_sum t_many t_sign t_changed t_pickedSum t_aim t_before t_open t_openStates t_openCount t_picks t_strides t_sums t_counts h_x6 h_t_openStates h_t_openCount h_t_picks h_t_strides hM; exfalso; omega
  | succ n ih =>
    intro x5 x6 t_sum t_many t_sign t_changed t_pickedSum t_aim t_before t_open t_openStates t_openCount t_picks t_strides t_sums t_counts h_x6 h_t_openStates h_t_openCount h_t_picks h_t_strides hM
    rw [L_X7_stateInWay_42]
    have l1 : (1 : Int32).toInt = 1 := rfl
    refine sat_ite (fun hc1 => ?_) (fun hc1 => ?_)
    · have thc1 := plt hc1
      exact sat_some ⟨h_t_openStates, h_t_openCount, h_t_picks, h_t_strides, trivial⟩
    · have thc1 := nlt hc1
      refine sat_cal (s_X7_settle x6 t_sum t_many t_sign t_changed t_pickedSum t_aim t_before t_open t_net_size t_net_loads t_net_near t_net_ties t_law_size t_law_factors t_law_pairFactors t_law_barred t_plan_size t_plan_knots t_plan_others t_plan_otherCount t_plan_scopes t_plan_users t_plan_feeders t_plan_feederCount t_openStates t_openCount t_picks t_strides t_sums t_counts (by omega) (by omega) (by omega) (by omega) h_t_plan_knots h_t_plan_others h_t_plan_otherCount h_t_plan_feeders h_t_plan_feederCount h_t_openStates h_t_openCount h_t_picks h_t_strides) fun u6 hu6 => ?_
      obtain ⟨hu6_7, hu6_8, hu6_9, hu6_10, -⟩ := hu6
      refine sat_bnd fun x5_7 e2 => ?_
      have te2 := congrArg Int32.toInt e2
      refine sat_bnd fun x6_8 e3 => ?_
      try (have k4 : (x6 + (1 : Int32)).toInt = x6.toInt + (1 : Int32).toInt := ti_add (by omega) (by omega))
      have te3 := congrArg Int32.toInt e3
      exact ih x5_7 x6_8 u6.2.1 u6.2.2.1 t_sign u6.2.2.2.1 u6.2.2.2.2.1 t_aim u6.2.2.2.2.2.1 u6.2.2.2.2.2.2.1 u6.2.2.2.2.2.2.2.1 u6.2.2.2.2.2.2.2.2.1 u6.2.2.2.2.2.2.2.2.2.1 u6.2.2.2.2.2.2.2.2.2.2.1 u6.2.2.2.2.2.2.2.2.2.2.2.1 u6.2.2.2.2.2.2.2.2.2.2.2.2 (by omega) hu6_7 hu6_8 hu6_9 hu6_10 (by omega)
theorem s_X7_stateInWay (a1 : Int32) (a2 : Int64) (a4 : Int32) (t_sum : Int32) (t_many : Int32) (t_sign : Int32) (t_changed : Int32) (t_pickedSum : Int32) (t_aim : Int32) (t_before : Int64) (t_open : Nat → Int32) (t_net_size : Int32) (t_net_loads : Nat → Int32) (t_net_near : Nat → Int32) (t_net_ties : Nat → Int32) (t_law_size : Int32) (t_law_factors : Nat → Int32) (t_law_pairFactors : Nat → Int32) (t_law_barred : Nat → Int32) (t_plan_size : Int32) (t_plan_knots : Nat → Int32) (t_plan_others : Nat → Int32) (t_plan_otherCount : Nat → Int32) (t_plan_scopes : Nat → Int32) (t_plan_users : Nat → Int32) (t_plan_feeders : Nat → Int32) (t_plan_feederCount : Nat → Int32) (t_openStates : Nat → Int32) (t_openCount : Nat → Int32) (t_picks : Nat → Int32) (t_strides : Nat → Int32) (t_sums : Nat → Int32) (t_counts : Nat → Int32) (h_a4 : 0 ≤ a4.toInt ∧ a4.toInt ≤ 13) (h_t_net_size : 0 ≤ t_net_size.toInt ∧ t_net_size.toInt ≤ 14) (h_t_law_size : 1 ≤ t_law_size.toInt ∧ t_law_size.toInt ≤ 4) (h_t_plan_size : 0 ≤ t_plan_size.toInt ∧ t_plan_size.toInt ≤ 14) (h_t_plan_knots : ∀ i, 0 ≤ (t_plan_knots i).toInt ∧ (t_plan_knots i).toInt ≤ 13) (h_t_plan_others : ∀ i, 0 ≤ (t_plan_others i).toInt ∧ (t_plan_others i).toInt ≤ 13) (h_t_plan_otherCount : ∀ i, 0 ≤ (t_plan_otherCount i).toInt ∧ (t_plan_otherCount i).toInt ≤ 4) (h_t_plan_feeders : ∀ i, 0 ≤ (t_plan_feeders i).toInt ∧ (t_plan_feeders i).toInt ≤ 13) (h_t_plan_feederCount : ∀ i, 0 ≤ (t_plan_feederCount i).toInt ∧ (t_plan_feederCount i).toInt ≤ 14) (h_t_openStates : ∀ i, 0 ≤ (t_openStates i).toInt ∧ (t_openStates i).toInt ≤ 3) (h_t_openCount : ∀ i, 0 ≤ (t_openCount i).toInt ∧ (t_openCount i).toInt ≤ 4) (h_t_picks : ∀ i, 0 ≤ (t_picks i).toInt ∧ (t_picks i).toInt ≤ 3) (h_t_strides : ST t_strides) : Sat (f_X7_stateInWay a1 a2 a4 t_sum t_many t_sign t_changed t_pickedSum t_aim t_before t_open t_net_size t_net_loads t_net_near t_net_ties t_law_size t_law_factors t_law_pairFactors t_law_barred t_plan_size t_plan_knots t_plan_others t_plan_otherCount t_plan_scopes t_plan_users t_plan_feeders t_plan_feederCount t_openStates t_openCount t_picks t_strides t_sums t_counts) (fun r => (∀ i, 0 ≤ ((r.2.2.2.2.2.2.2.2.2.1) i).toInt ∧ ((r.2.2.2.2.2.2.2.2.2.1) i).toInt ≤ 3) ∧ (∀ i, 0 ≤ ((r.2.2.2.2.2.2.2.2.2.2.1) i).toInt ∧ ((r.2.2.2.2.2.2.2.2.2.2.1) i).toInt ≤ 4) ∧ (∀ i, 0 ≤ ((r.2.2.2.2.2.2.2.2.2.2.2.1) i).toInt ∧ ((r.2.2.2.2.2.2.2.2.2.2.2.1) i).toInt ≤ 3) ∧ (ST (r.2.2.2.2.2.2.2.2.2.2.2.2.1)) ∧ True) := by
  unfold f_X7_stateInWay
  have lm1 : (-1 : Int32).toInt = -1 := rfl
  have l0 : (0 : Int32).toInt = 0 := rfl
  refine sat_cal (s_X7_sweep a1 t_sum t_many t_sign t_changed t_pickedSum t_open t_net_size t_net_loads t_net_near t_net_ties t_law_size t_law_factors t_law_pairFactors t_law_barred t_plan_size t_plan_knots t_plan_others t_plan_otherCount t_plan_scopes t_plan_users t_plan_feeders t_plan_feederCount t_openStates t_openCount t_picks t_strides t_sums t_counts (by omega) (by omega) (by omega) h_t_plan_knots h_t_plan_others h_t_plan_otherCount h_t_plan_feeders h_t_plan_feederCount h_t_openStates h_t_openCount h_t_picks h_t_strides) fun u1 hu1 => ?_
  obtain ⟨hu1_5, hu1_6, hu1_7, hu1_8, -⟩ := hu1
  refine sat_ite (fun hc1 => ?_) (fun hc1 => ?_)
  · exact sat_some ⟨hu1_5, hu1_6, hu1_7, hu1_8, trivial⟩
  · refine sat_ite (fun hc2 => ?_) (fun hc2 => ?_)
    · refine sat_bnd fun t_aim_2 e3 => ?_
      have te3 := congrArg Int32.toInt e3
      refine sat_bnd fun t_before_3 e4 => ?_
      refine sat_bnd fun x5_4 e5 => ?_
      have te5 := congrArg Int32.toInt e5
      refine sat_bnd fun x6_5 e6 => ?_
      have te6 := congrArg Int32.toInt e6
      have hNN := NN_i
      exact l_X7_stateInWay_42 a1 a2 a4 t_net_size t_net_loads t_net_near t_net_ties t_law_size t_law_factors t_law_pairFactors t_law_barred t_plan_size t_plan_knots t_plan_others t_plan_otherCount t_plan_scopes t_plan_users t_plan_feeders t_plan_feederCount (by omega) (by omega) (by omega) (by omega) h_t_plan_knots h_t_plan_others h_t_plan_otherCount h_t_plan_feeders h_t_plan_feederCount NN x5_4 x6_5 u1.1 u1.2.1 u1.2.2.1 u1.2.2.2.1 u1.2.2.2.2.1 t_aim_2 t_before_3 t_open u1.2.2.2.2.2.1 u1.2.2.2.2.2.2.1 u1.2.2.2.2.2.2.2.1 u1.2.2.2.2.2.2.2.2.1 u1.2.2.2.2.2.2.2.2.2.1 u1.2.2.2.2.2.2.2.2.2.2 (by omega) hu1_5 hu1_6 hu1_7 hu1_8 (by omega)
    · exact sat_some ⟨hu1_5, hu1_6, hu1_7, hu1_8, trivial⟩
