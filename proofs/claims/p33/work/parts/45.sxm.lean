theorem s_X9_isKnot (a1 : Int32) (t_knots : Int32) (h_t_knots : 0 ≤ t_knots.toInt ∧ t_knots.toInt ≤ 14) : Sat (f_X9_isKnot a1 t_knots) (fun r => ((r.toInt = 0 ∨ (0 ≤ a1.toInt ∧ a1.toInt < t_knots.toInt)) ∧ 0 ≤ r.toInt ∧ r.toInt ≤ 1) ∧ True) := by
  unfold f_X9_isKnot
  have l0 : (0 : Int32).toInt = 0 := rfl
  have l1 : (1 : Int32).toInt = 1 := rfl
  refine sat_ite (fun hc1 => ?_) (fun hc1 => ?_)
  · have thc1 := plt hc1
    exact sat_some ⟨(by omega), trivial⟩
  · have thc1 := nlt hc1
    refine sat_ite (fun hc2 => ?_) (fun hc2 => ?_)
    · have thc2 := ple hc2
      exact sat_some ⟨(by omega), trivial⟩
    · have thc2 := nle hc2
      exact sat_some ⟨(by omega), trivial⟩
theorem s_X9_isWeight (a1 : Int32) : Sat (f_X9_isWeight a1) (fun r => (0 ≤ r.toInt ∧ r.toInt ≤ 1) ∧ True) := by
  unfold f_X9_isWeight
  have l0 : (0 : Int32).toInt = 0 := rfl
  have l1000 : (1000 : Int32).toInt = 1000 := rfl
  have l1 : (1 : Int32).toInt = 1 := rfl
  refine sat_ite (fun hc1 => ?_) (fun hc1 => ?_)
  · have thc1 := plt hc1
    exact sat_some ⟨(by omega), trivial⟩
  · have thc1 := nlt hc1
    refine sat_ite (fun hc2 => ?_) (fun hc2 => ?_)
    · have thc2 := plt hc2
      exact sat_some ⟨(by omega), trivial⟩
    · have thc2 := nlt hc2
      exact sat_some ⟨(by omega), trivial⟩
theorem s_X9_all (t_knots : Int32) (h_t_knots : 0 ≤ t_knots.toInt ∧ t_knots.toInt ≤ 14) : Sat (f_X9_all t_knots) (fun r => (0 ≤ r.toInt ∧ r.toInt ≤ 16383) ∧ True) := s_X4_everyKnot t_knots h_t_knots
theorem s_X9_knot (a1 : Int32) (t_knots : Int32) (t_rowed : Int32) (t_bags : Int32) (t_weight : Nat → Int32) (t_beside : Nat → Int32) (h_t_knots : 0 ≤ t_knots.toInt ∧ t_knots.toInt ≤ 14) (h_t_rowed : 0 ≤ t_rowed.toInt ∧ t_rowed.toInt ≤ 14) (h_t_bags : 0 ≤ t_bags.toInt ∧ t_bags.toInt ≤ 14) (h_t_beside : ∀ i, 0 ≤ (t_beside i).toInt ∧ (t_beside i).toInt ≤ 16383) : Sat (f_X9_knot a1 t_knots t_rowed t_bags t_weight t_beside) (fun r => (0 ≤ (r.2.1).toInt ∧ (r.2.1).toInt ≤ 14) ∧ (0 ≤ (r.2.2.1).toInt ∧ (r.2.2.1).toInt ≤ 14) ∧ (0 ≤ (r.2.2.2.1).toInt ∧ (r.2.2.2.1).toInt ≤ 14) ∧ (∀ i, 0 ≤ ((r.2.2.2.2.2) i).toInt ∧ ((r.2.2.2.2.2) i).toInt ≤ 16383) ∧ (r.2.2.1 = t_rowed ∨ r.2.2.1 = 0) ∧ True) := by
  unfold f_X9_knot
  have l0 : (0 : Int32).toInt = 0 := rfl
  have l14 : (14 : Int32).toInt = 14 := rfl
  have l1 : (1 : Int32).toInt = 1 := rfl
  refine sat_cal (s_X9_isWeight a1) fun u1 hu1 => ?_
  obtain ⟨hu1_0, -⟩ := hu1
  refine sat_ite (fun hc1 => ?_) (fun hc1 => ?_)
  · have thc1 := congrArg Int32.toInt hc1
    exact sat_some ⟨(by (try dsimp only); omega), (by (try dsimp only); omega), (by (try dsimp only); omega), h_t_beside, (by first | exact Or.inl rfl | (refine Or.inr ?_; assumption)), trivial⟩
  · have thc1 := neq hc1
    refine sat_ite (fun hc2 => ?_) (fun hc2 => ?_)
    · have thc2 := congrArg Int32.toInt hc2
      exact sat_some ⟨(by (try dsimp only); omega), (by (try dsimp only); omega), (by (try dsimp only); omega), h_t_beside, (by first | exact Or.inl rfl | (refine Or.inr ?_; assumption)), trivial⟩
    · have thc2 := neq hc2
      refine sat_stI (okI_of (by omega)) fun t_weight_2 e3 => ?_
      refine sat_stI (okI_of (by omega)) fun t_beside_3 e4 => ?_
      have h_t_beside_3 := ra_upd e4 h_t_beside (by omega)
      refine sat_bnd fun t_knots_4 e5 => ?_
      try (have k6 : (t_knots + (1 : Int32)).toInt = t_knots.toInt + (1 : Int32).toInt := ti_add (by omega) (by omega))
      have te5 := congrArg Int32.toInt e5
      refine sat_bnd fun t_rowed_5 e7 => ?_
      have te7 := congrArg Int32.toInt e7
      refine sat_bnd fun t_bags_6 e8 => ?_
      have te8 := congrArg Int32.toInt e8
      exact sat_some ⟨(by (try dsimp only); omega), (by (try dsimp only); omega), (by (try dsimp only); omega), h_t_beside_3, (by first | exact Or.inl rfl | (refine Or.inr ?_; assumption)), trivial⟩
theorem s_X9_edge (a1 : Int32) (a2 : Int32) (a3 : Int32) (t_knots : Int32) (t_beside : Nat → Int32) (t_edge : Nat → Int32) (h_t_knots : 0 ≤ t_knots.toInt ∧ t_knots.toInt ≤ 14) (h_t_beside : ∀ i, 0 ≤ (t_beside i).toInt ∧ (t_beside i).toInt ≤ 16383) : Sat (f_X9_edge a1 a2 a3 t_knots t_beside t_edge) (fun r => (∀ i, 0 ≤ ((r.2.1) i).toInt ∧ ((r.2.1) i).toInt ≤ 16383) ∧ True) := by
  unfold f_X9_edge
  have l0 : (0 : Int32).toInt = 0 := rfl
  have l14 : (14 : Int32).toInt = 14 := rfl
  refine sat_cal (s_X9_isKnot a1 t_knots (by omega)) fun u1 hu1 => ?_
  obtain ⟨hu1_0, -⟩ := hu1
  refine sat_ite (fun hc1 => ?_) (fun hc1 => ?_)
  · have thc1 := congrArg Int32.toInt hc1
    exact sat_some ⟨h_t_beside, trivial⟩
  · have thc1 := neq hc1
    refine sat_cal (s_X9_isKnot a2 t_knots (by omega)) fun u2 hu2 => ?_
    obtain ⟨hu2_0, -⟩ := hu2
    refine sat_ite (fun hc2 => ?_) (fun hc2 => ?_)
    · have thc2 := congrArg Int32.toInt hc2
      exact sat_some ⟨h_t_beside, trivial⟩
    · have thc2 := neq hc2
      refine sat_ite (fun hc3 => ?_) (fun hc3 => ?_)
      · have thc3 := congrArg Int32.toInt hc3
        exact sat_some ⟨h_t_beside, trivial⟩
      · have thc3 := neq hc3
        refine sat_cal (s_X9_isWeight a3) fun u3 hu3 => ?_
        obtain ⟨hu3_0, -⟩ := hu3
        refine sat_ite (fun hc4 => ?_) (fun hc4 => ?_)
        · have thc4 := congrArg Int32.toInt hc4
          exact sat_some ⟨h_t_beside, trivial⟩
        · have thc4 := neq hc4
          refine sat_ldA (okI_of (by omega)) fun v4 e5 => ?_
          have hv4 := ra_get e5 h_t_beside
          refine sat_bnd fun x4_5 e6 => ?_
          try (have te6 : 0 ≤ x4_5.toInt ∧ x4_5.toInt ≤ 16383 := by rw [e6]; exact (anl_rg (by omega)))
          refine sat_ldA (okI_of (by omega)) fun v6 e7 => ?_
          have tdv6 := congrArg Int32.toInt (e7.trans e5.symm)
          have hv6 := ra_get e7 h_t_beside
          refine sat_stI (okI_of (by omega)) fun t_beside_7 e8 => ?_
          have h_t_beside_7 := ra_upd e8 h_t_beside (or_rg (by omega) (shl_rg (by omega)))
          refine sat_ldA (okI_of (by omega)) fun v8 e9 => ?_
          have hv8 := ra_get e9 h_t_beside_7
          refine sat_stI (okI_of (by omega)) fun t_beside_9 e10 => ?_
          have h_t_beside_9 := ra_upd e10 h_t_beside_7 (or_rg (by omega) (shl_rg (by omega)))
          try (have k12 : ((14 : Int32) * a1).toInt = 14 * a1.toInt := ti_cmul rfl (by omega))
          try (have k13 : (((14 : Int32) * a1) + a2).toInt = ((14 : Int32) * a1).toInt + a2.toInt := ti_add (by omega) (by omega))
          refine sat_stI (okI_of (by omega)) fun t_edge_10 e11 => ?_
          try (have k15 : ((14 : Int32) * a2).toInt = 14 * a2.toInt := ti_cmul rfl (by omega))
          try (have k16 : (((14 : Int32) * a2) + a1).toInt = ((14 : Int32) * a2).toInt + a1.toInt := ti_add (by omega) (by omega))
          refine sat_stI (okI_of (by omega)) fun t_edge_11 e14 => ?_
          exact sat_some ⟨h_t_beside_9, trivial⟩
theorem s_X9_isEdge (a1 : Int32) (a2 : Int32) (t_knots : Int32) (t_beside : Nat → Int32) (h_t_knots : 0 ≤ t_knots.toInt ∧ t_knots.toInt ≤ 14) (h_t_beside : ∀ i, 0 ≤ (t_beside i).toInt ∧ (t_beside i).toInt ≤ 16383) : Sat (f_X9_isEdge a1 a2 t_knots t_beside) (fun r => ((r.toInt = 0 ∨ (0 ≤ a1.toInt ∧ a1.toInt < t_knots.toInt ∧ 0 ≤ a2.toInt ∧ a2.toInt < t_knots.toInt)) ∧ 0 ≤ r.toInt ∧ r.toInt ≤ 1) ∧ True) := by
  unfold f_X9_isEdge
  have l0 : (0 : Int32).toInt = 0 := rfl
  have l1 : (1 : Int32).toInt = 1 := rfl
  refine sat_cal (s_X9_isKnot a1 t_knots (by omega)) fun u1 hu1 => ?_
  obtain ⟨hu1_0, -⟩ := hu1
  refine sat_ite (fun hc1 => ?_) (fun hc1 => ?_)
  · have thc1 := congrArg Int32.toInt hc1
    exact sat_some ⟨(by omega), trivial⟩
  · have thc1 := neq hc1
    refine sat_cal (s_X9_isKnot a2 t_knots (by omega)) fun u2 hu2 => ?_
    obtain ⟨hu2_0, -⟩ := hu2
    refine sat_ite (fun hc2 => ?_) (fun hc2 => ?_)
    · have thc2 := congrArg Int32.toInt hc2
      exact sat_some ⟨(by omega), trivial⟩
    · have thc2 := neq hc2
      refine sat_ldA (okI_of (by omega)) fun v3 e3 => ?_
      have hv3 := ra_get e3 h_t_beside
      refine sat_ite (fun hc4 => ?_) (fun hc4 => ?_)
      · have thc4 := congrArg Int32.toInt hc4
        exact sat_some ⟨(by omega), trivial⟩
      · have thc4 := neq hc4
        exact sat_some ⟨(by omega), trivial⟩
theorem s_X9_cut (a1 : Int32) (a2 : Int32) (t_knots : Int32) (t_beside : Nat → Int32) (t_edge : Nat → Int32) (h_t_knots : 0 ≤ t_knots.toInt ∧ t_knots.toInt ≤ 14) (h_t_beside : ∀ i, 0 ≤ (t_beside i).toInt ∧ (t_beside i).toInt ≤ 16383) : Sat (f_X9_cut a1 a2 t_knots t_beside t_edge) (fun r => (∀ i, 0 ≤ ((r.2) i).toInt ∧ ((r.2) i).toInt ≤ 16383) ∧ True) := by
  unfold f_X9_cut
  have l0 : (0 : Int32).toInt = 0 := rfl
  have l14 : (14 : Int32).toInt = 14 := rfl
  refine sat_cal (s_X9_isEdge a1 a2 t_knots t_beside (by omega) h_t_beside) fun u1 hu1 => ?_
  obtain ⟨hu1_0, -⟩ := hu1
  refine sat_ite (fun hc1 => ?_) (fun hc1 => ?_)
  · have thc1 := congrArg Int32.toInt hc1
    exact sat_some ⟨h_t_beside, trivial⟩
  · have thc1 := neq hc1
    refine sat_ldA (okI_of (by omega)) fun v2 e2 => ?_
    have hv2 := ra_get e2 h_t_beside
    refine sat_stI (okI_of (by omega)) fun t_beside_3 e3 => ?_
    have h_t_beside_3 := ra_upd e3 h_t_beside (anl_rg (by omega))
    refine sat_ldA (okI_of (by omega)) fun v4 e4 => ?_
    have hv4 := ra_get e4 h_t_beside_3
    refine sat_stI (okI_of (by omega)) fun t_beside_5 e5 => ?_
    have h_t_beside_5 := ra_upd e5 h_t_beside_3 (anl_rg (by omega))
    try (have k7 : ((14 : Int32) * a1).toInt = 14 * a1.toInt := ti_cmul rfl (by omega))
    try (have k8 : (((14 : Int32) * a1) + a2).toInt = ((14 : Int32) * a1).toInt + a2.toInt := ti_add (by omega) (by omega))
    refine sat_ldA (okI_of (by omega)) fun v6 e6 => ?_
    exact sat_some ⟨h_t_beside_5, trivial⟩
theorem s_X9_weigh (a1 : Int32) (a2 : Int32) (t_knots : Int32) (t_weight : Nat → Int32) (h_t_knots : 0 ≤ t_knots.toInt ∧ t_knots.toInt ≤ 14) : Sat (f_X9_weigh a1 a2 t_knots t_weight) (fun r => True) := by
  unfold f_X9_weigh
  have l0 : (0 : Int32).toInt = 0 := rfl
  refine sat_cal (s_X9_isKnot a1 t_knots (by omega)) fun u1 hu1 => ?_
  obtain ⟨hu1_0, -⟩ := hu1
  refine sat_ite (fun hc1 => ?_) (fun hc1 => ?_)
  · have thc1 := congrArg Int32.toInt hc1
    exact sat_some trivial
  · have thc1 := neq hc1
    refine sat_cal (s_X9_isWeight a2) fun u2 hu2 => ?_
    obtain ⟨hu2_0, -⟩ := hu2
    refine sat_ite (fun hc2 => ?_) (fun hc2 => ?_)
    · have thc2 := congrArg Int32.toInt hc2
      exact sat_some trivial
    · have thc2 := neq hc2
      refine sat_ldA (okI_of (by omega)) fun v3 e3 => ?_
      refine sat_bnd fun x3_4 e4 => ?_
      have te4 := congrArg Int32.toInt e4
      refine sat_stI (okI_of (by omega)) fun t_weight_5 e5 => ?_
      exact sat_some trivial
theorem s_X9_weight (a1 : Int32) (a2 : Int32) (t_knots : Int32) (t_weight : Nat → Int32) (t_beside : Nat → Int32) (t_edge : Nat → Int32) (h_t_knots : 0 ≤ t_knots.toInt ∧ t_knots.toInt ≤ 14) (h_t_beside : ∀ i, 0 ≤ (t_beside i).toInt ∧ (t_beside i).toInt ≤ 16383) : Sat (f_X9_weight a1 a2 t_knots t_weight t_beside t_edge) (fun r => True) := by
  unfold f_X9_weight
  have l0 : (0 : Int32).toInt = 0 := rfl
  have l14 : (14 : Int32).toInt = 14 := rfl
  refine sat_ite (fun hc1 => ?_) (fun hc1 => ?_)
  · have thc1 := congrArg Int32.toInt hc1
    refine sat_cal (s_X9_isKnot a1 t_knots (by omega)) fun u3 hu3 => ?_
    obtain ⟨hu3_0, -⟩ := hu3
    refine sat_ite (fun hc2 => ?_) (fun hc2 => ?_)
    · have thc2 := congrArg Int32.toInt hc2
      exact sat_some trivial
    · have thc2 := neq hc2
      refine sat_ldA (okI_of (by omega)) fun v4 e3 => ?_
      exact sat_some trivial
  · have thc1 := neq hc1
    refine sat_cal (s_X9_isEdge a1 a2 t_knots t_beside (by omega) h_t_beside) fun u1 hu1 => ?_
    obtain ⟨hu1_0, -⟩ := hu1
    refine sat_ite (fun hc4 => ?_) (fun hc4 => ?_)
    · have thc4 := congrArg Int32.toInt hc4
      exact sat_some trivial
    · have thc4 := neq hc4
      try (have k6 : ((14 : Int32) * a1).toInt = 14 * a1.toInt := ti_cmul rfl (by omega))
      try (have k7 : (((14 : Int32) * a1) + a2).toInt = ((14 : Int32) * a1).toInt + a2.toInt := ti_add (by omega) (by omega))
      refine sat_ldA (okI_of (by omega)) fun v2 e5 => ?_
      exact sat_some trivial
theorem s_X9_beside (a1 : Int32) (t_knots : Int32) (t_beside : Nat → Int32) (h_t_knots : 0 ≤ t_knots.toInt ∧ t_knots.toInt ≤ 14) (h_t_beside : ∀ i, 0 ≤ (t_beside i).toInt ∧ (t_beside i).toInt ≤ 16383) : Sat (f_X9_beside a1 t_knots t_beside) (fun r => True) := by
  unfold f_X9_beside
  have l0 : (0 : Int32).toInt = 0 := rfl
  refine sat_cal (s_X9_isKnot a1 t_knots (by omega)) fun u1 hu1 => ?_
  obtain ⟨hu1_0, -⟩ := hu1
  refine sat_ite (fun hc1 => ?_) (fun hc1 => ?_)
  · have thc1 := congrArg Int32.toInt hc1
    exact sat_some trivial
  · have thc1 := neq hc1
    refine sat_ldA (okI_of (by omega)) fun v2 e2 => ?_
    have hv2 := ra_get e2 h_t_beside
    exact sat_some trivial
theorem l_X9_rowMask_4 (t_rowed : Int32) (t_row : Nat → Int32) (h_t_rowed : 0 ≤ t_rowed.toInt ∧ t_rowed.toInt ≤ 14) (h_t_row : ∀ i, 0 ≤ (t_row i).toInt ∧ (t_row i).toInt ≤ 13) : ∀ (n : Nat) (x1 : Int32) (x2 : Int32), (0 ≤ x2.toInt ∧ x2.toInt ≤ 14) → (x2.toInt ≤ t_rowed.toInt) → (x1 = nI (rmN t_row x2.toNatClampNeg)) → 14 - x2.toInt < (n : Int) → Sat (L_X9_rowMask_4 t_rowed t_row n x1 x2) (fun r => (r = nI (rmN t_row t_rowed.toNatClampNeg)) ∧ True) := by
  intro n
  induction n with
  | zero => intro x1 x2 h_x2 hi0 hi1 hM; exfalso; omega
  | succ n ih =>
    intro x1 x2 h_x2 hi0 hi1 hM
    rw [L_X9_rowMask_4]
    have l1 : (1 : Int32).toInt = 1 := rfl
    have n2 := tn (x := x2) h_x2.1
    have nr := tn (x := t_rowed) h_t_rowed.1
    refine sat_ite (fun hc => ?_) (fun hc => ?_)
    · have hc := ple hc
      exact sat_some ⟨by rw [hi1, show t_rowed.toNatClampNeg = x2.toNatClampNeg from by omega], trivial⟩
    · have hc := nle hc
      refine sat_ldA (okI_of (by omega)) fun v3 e3 => ?_
      have hv := ra_get e3 h_t_row
      have k2 : (x2 + (1 : Int32)).toInt = x2.toInt + (1 : Int32).toInt := ti_add (by omega) (by omega)
      have n3 := tn (x := x2 + 1) (by omega)
      refine sat_bnd fun x1_4 e4 => ?_
      refine sat_bnd fun x2_5 e5 => ?_
      have te5 := congrArg Int32.toInt e5
      refine ih x1_4 x2_5 (by omega) (by omega) ?_ (by omega)
      obtain ⟨j, b1, b2, b3, b4⟩ := mk_of hv
      have e : x2_5.toNatClampNeg = x2.toNatClampNeg + 1 := by rw [e5]; omega
      rw [e4, hi1, b3, nx_bit1 j (by omega), nx_or, e]
      show _ = nI (rmN t_row x2.toNatClampNeg ||| 2 ^ (t_row x2.toNatClampNeg).toNatClampNeg)
      rw [← e3, b4]
theorem s_X9_rowMask (t_rowed : Int32) (t_row : Nat → Int32) (h_t_rowed : 0 ≤ t_rowed.toInt ∧ t_rowed.toInt ≤ 14) (h_t_row : ∀ i, 0 ≤ (t_row i).toInt ∧ (t_row i).toInt ≤ 13) : Sat (f_X9_rowMask t_rowed t_row) (fun r => (r = nI (rmN t_row t_rowed.toNatClampNeg)) ∧ True) := by
  unfold f_X9_rowMask
  have l0 : (0 : Int32).toInt = 0 := rfl
  refine sat_bnd fun x1_1 e1 => ?_
  refine sat_bnd fun x2_2 e2 => ?_
  have te1 := congrArg Int32.toInt e1
  have te2 := congrArg Int32.toInt e2
  have hNN := NN_i
  exact l_X9_rowMask_4 t_rowed t_row h_t_rowed h_t_row NN x1_1 x2_2 (by omega) (by omega) (by rw [e1, e2]; rfl) (by omega)
theorem s_X9_put (a1 : Int32) (t_knots : Int32) (t_rowed : Int32) (t_row : Nat → Int32) (h_t_knots : 0 ≤ t_knots.toInt ∧ t_knots.toInt ≤ 14) (h_t_rowed : 0 ≤ t_rowed.toInt ∧ t_rowed.toInt ≤ 14) (h_t_row : ∀ i, 0 ≤ (t_row i).toInt ∧ (t_row i).toInt ≤ 13) (hp0 : RW t_rowed t_row) : Sat (f_X9_put a1 t_knots t_rowed t_row) (fun r => (0 ≤ (r.2.1).toInt ∧ (r.2.1).toInt ≤ 14) ∧ (∀ i, 0 ≤ ((r.2.2) i).toInt ∧ ((r.2.2) i).toInt ≤ 13) ∧ (RW r.2.1 r.2.2) ∧ True) := by
  unfold f_X9_put
  have l1 : (1 : Int32).toInt = 1 := rfl
  refine sat_cal (s_X9_isKnot a1 t_knots h_t_knots) fun u1 hu1 => ?_
  refine sat_ite (fun hc => ?_) (fun hc => ?_)
  · exact sat_some ⟨h_t_rowed, h_t_row, hp0, trivial⟩
  · have hc := neq hc
    have l0 : (0 : Int32).toInt = 0 := rfl
    have hk := hu1.1.1.resolve_left (by omega)
    refine sat_cal (s_X9_rowMask t_rowed t_row h_t_rowed h_t_row) fun u2 hu2 => ?_
    have hm := rmN_lt h_t_row t_rowed.toNatClampNeg
    have hu := hu2.1
    have hr2 : 0 ≤ u2.toInt ∧ u2.toInt ≤ 16383 := by rw [hu]; exact mk_rg hm
    refine sat_ite (fun hd => ?_) (fun hd => ?_)
    · exact sat_some ⟨h_t_rowed, h_t_row, hp0, trivial⟩
    · rw [has1_tb hr2 (by omega), hu, nI_clamp (by omega)] at hd
      have hd : (rmN t_row t_rowed.toNatClampNeg).testBit a1.toNatClampNeg = false := by simpa using hd
      obtain ⟨q1, q2, q3⟩ := RW_app h_t_rowed (by omega) hp0 hd
      refine sat_stI (okI_of (by omega)) fun t_row_3 e3 => ?_
      have k2 : (t_rowed + (1 : Int32)).toInt = t_rowed.toInt + (1 : Int32).toInt := ti_add (by omega) (by omega)
      refine sat_bnd fun t_rowed_4 e4 => ?_
      have te4 := congrArg Int32.toInt e4
      refine sat_some ⟨by dsimp only; omega, ra_upd e3 h_t_row (by omega), ?_, trivial⟩
      dsimp only
      rw [e4, e3]; exact q2
theorem s_X9_wipe (t_rowed : Int32) (h_t_rowed : 0 ≤ t_rowed.toInt ∧ t_rowed.toInt ≤ 14) : Sat (f_X9_wipe t_rowed) (fun r => (0 ≤ (r.2).toInt ∧ (r.2).toInt ≤ 14) ∧ (r.2 = t_rowed ∨ r.2 = 0) ∧ True) := by
  unfold f_X9_wipe
  have l0 : (0 : Int32).toInt = 0 := rfl
  refine sat_bnd fun x1_1 e1 => ?_
  have te1 := congrArg Int32.toInt e1
  refine sat_bnd fun t_rowed_2 e2 => ?_
  have te2 := congrArg Int32.toInt e2
  exact sat_some ⟨(by (try dsimp only); omega), (by first | exact Or.inl rfl | (refine Or.inr ?_; assumption)), trivial⟩
theorem s_X9_row (a1 : Int32) (t_rowed : Int32) (t_row : Nat → Int32) (h_t_rowed : 0 ≤ t_rowed.toInt ∧ t_rowed.toInt ≤ 14) (h_t_row : ∀ i, 0 ≤ (t_row i).toInt ∧ (t_row i).toInt ≤ 13) : Sat (f_X9_row a1 t_rowed t_row) (fun r => True) := by
  unfold f_X9_row
  have l0 : (0 : Int32).toInt = 0 := rfl
  refine sat_ite (fun hc1 => ?_) (fun hc1 => ?_)
  · have thc1 := plt hc1
    exact sat_some trivial
  · have thc1 := nlt hc1
    refine sat_ite (fun hc2 => ?_) (fun hc2 => ?_)
    · have thc2 := plt hc2
      refine sat_ldA (okI_of (by omega)) fun v1 e3 => ?_
      have hv1 := ra_get e3 h_t_row
      exact sat_some trivial
    · have thc2 := nlt hc2
      exact sat_some trivial
theorem l_X9_around_37 (a1 : Int32) (a2 : Int32) (t_knots : Int32) (t_beside : Nat → Int32) (k_12 : Int32 → Int32 → Option (Int32)) (g_12 : Int) (h_a1 : 0 ≤ a1.toInt ∧ a1.toInt ≤ 16383) (h_a2 : 0 ≤ a2.toInt ∧ a2.toInt ≤ 13) (h_t_knots : 0 ≤ t_knots.toInt ∧ t_knots.toInt ≤ 14) (h_t_beside : ∀ i, 0 ≤ (t_beside i).toInt ∧ (t_beside i).toInt ≤ 16383) (hk_12 : ∀ (x3 : Int32) (x4 : Int32), (0 ≤ x3.toInt ∧ x3.toInt ≤ 16383) → (0 ≤ x4.toInt ∧ x4.toInt ≤ 16383) → (16383 - x3.toInt < g_12) → Sat (k_12 x3 x4) (fun r => (0 ≤ r.toInt ∧ r.toInt ≤ 16383) ∧ True)) : ∀ (n : Nat) (x3 : Int32) (x4 : Int32) (x5 : Int32) (x6 : Int32), (0 ≤ x3.toInt ∧ x3.toInt ≤ 16383) → (0 ≤ x4.toInt ∧ x4.toInt ≤ 16383) → (0 ≤ x5.toInt ∧ x5.toInt ≤ 16383) → (0 ≤ x6.toInt ∧ x6.toInt ≤ 14) → (16383 - x3.toInt < g_12) → (16383 - x3.toInt ≤ g_12) → 14 - x6.toInt < (n : Int) → Sat (L_X9_around_37 a1 a2 t_knots t_beside k_12 n x3 x4 x5 x6) (fun r => (0 ≤ r.toInt ∧ r.toInt ≤ 16383) ∧ True) := by
  intro n
  induction n with
  | zero => intro x3 x4 x5 x6 h_x3 h_x4 h_x5 h_x6 hi0 hg_12 hM; exfalso; omega
  | succ n ih =>
    intro x3 x4 x5 x6 h_x3 h_x4 h_x5 h_x6 hi0 hg_12 hM
    rw [L_X9_around_37]
    have l0 : (0 : Int32).toInt = 0 := rfl
    have l1 : (1 : Int32).toInt = 1 := rfl
    refine sat_ite (fun hc1 => ?_) (fun hc1 => ?_)
    · have thc1 := ple hc1
      exact hk_12 x3 x4 (by omega) (by omega) (by omega)
    · have thc1 := nle hc1
      refine sat_ite (fun hc2 => ?_) (fun hc2 => ?_)
      · have thc2 := congrArg Int32.toInt hc2
        refine sat_bnd fun x6_7 e3 => ?_
        try (have k4 : (x6 + (1 : Int32)).toInt = x6.toInt + (1 : Int32).toInt := ti_add (by omega) (by omega))
        have te3 := congrArg Int32.toInt e3
        exact ih x3 x4 x5 x6_7 (by omega) (by omega) (by omega) (by omega) (by omega) (by omega) (by omega)
      · have thc2 := neq hc2
        refine sat_ldA (okI_of (by omega)) fun v8 e5 => ?_
        have hv8 := ra_get e5 h_t_beside
        refine sat_bnd fun x4_9 e6 => ?_
        try (have te6 : 0 ≤ x4_9.toInt ∧ x4_9.toInt ≤ 16383 := by rw [e6]; exact (or_rg (by omega) (by omega)))
        refine sat_bnd fun x6_10 e7 => ?_
        try (have k8 : (x6 + (1 : Int32)).toInt = x6.toInt + (1 : Int32).toInt := ti_add (by omega) (by omega))
        have te7 := congrArg Int32.toInt e7
        exact ih x3 x4_9 x5 x6_10 (by omega) (by omega) (by omega) (by omega) (by omega) (by omega) (by omega)
theorem l_X9_around_12 (a1 : Int32) (a2 : Int32) (t_knots : Int32) (t_beside : Nat → Int32) (h_a1 : 0 ≤ a1.toInt ∧ a1.toInt ≤ 16383) (h_a2 : 0 ≤ a2.toInt ∧ a2.toInt ≤ 13) (h_t_knots : 0 ≤ t_knots.toInt ∧ t_knots.toInt ≤ 14) (h_t_beside : ∀ i, 0 ≤ (t_beside i).toInt ∧ (t_beside i).toInt ≤ 16383) : ∀ (n : Nat) (x3 : Int32) (x4 : Int32), (0 ≤ x3.toInt ∧ x3.toInt ≤ 16383) → (0 ≤ x4.toInt ∧ x4.toInt ≤ 16383) → 16383 - x3.toInt < (n : Int) → Sat (L_X9_around_12 a1 a2 t_knots t_beside n x3 x4) (fun r => (0 ≤ r.toInt ∧ r.toInt ≤ 16383) ∧ True) := by
  intro n
  induction n with
  | zero => intro x3 x4 h_x3 h_x4 hM; exfalso; omega
  | succ n ih =>
    intro x3 x4 h_x3 h_x4 hM
    rw [L_X9_around_12]
    refine sat_ite (fun hc => ?_) (fun hc => ?_)
    · exact sat_some ⟨anl_rg (anl_rg h_x3), trivial⟩
    · refine sat_bnd fun x5_4 e1 => ?_
      refine sat_bnd fun x3_5 e2 => ?_
      refine sat_bnd fun x6_6 e3 => ?_
      have l0 : (0 : Int32).toInt = 0 := rfl
      have te3 := congrArg Int32.toInt e3
      have h5 : 0 ≤ x5_4.toInt ∧ x5_4.toInt ≤ 16383 := by rw [e1]; exact anl_rg h_x4
      have h35 : 0 ≤ x3_5.toInt ∧ x3_5.toInt ≤ 16383 := by rw [e2]; exact or_rg h_x3 h5
      have hlt : x3.toInt < x3_5.toInt := by rw [e2, e1]; exact grow h_x3 h_x4 hc
      have hNN := NN_i
      exact l_X9_around_37 a1 a2 t_knots t_beside (fun y0 y1 => L_X9_around_12 a1 a2 t_knots t_beside n y0 y1) (n : Int) h_a1 h_a2 h_t_knots h_t_beside (fun y0 y1 z0 z1 zm => ih y0 y1 z0 z1 zm) NN x3_5 x4 x5_4 x6_6 h35 h_x4 h5 (by omega) (by omega) (by omega) (by omega)
theorem s_X9_around (a1 : Int32) (a2 : Int32) (t_knots : Int32) (t_beside : Nat → Int32) (h_a1 : 0 ≤ a1.toInt ∧ a1.toInt ≤ 16383) (h_a2 : 0 ≤ a2.toInt ∧ a2.toInt ≤ 13) (h_t_knots : 0 ≤ t_knots.toInt ∧ t_knots.toInt ≤ 14) (h_t_beside : ∀ i, 0 ≤ (t_beside i).toInt ∧ (t_beside i).toInt ≤ 16383) : Sat (f_X9_around a1 a2 t_knots t_beside) (fun r => (0 ≤ r.toInt ∧ r.toInt ≤ 16383) ∧ True) := by
  unfold f_X9_around
  refine sat_bnd fun x3_1 e1 => ?_
  try (have te1 : 0 ≤ x3_1.toInt ∧ x3_1.toInt ≤ 16383 := by rw [e1]; exact (shl_rg (by omega)))
  refine sat_ldA (okI_of (by omega)) fun v2 e2 => ?_
  have hv2 := ra_get e2 h_t_beside
  refine sat_bnd fun x4_3 e3 => ?_
  have te3 := congrArg Int32.toInt e3
  have hNN := NN_i
  exact l_X9_around_12 a1 a2 t_knots t_beside (by omega) (by omega) (by omega) h_t_beside NN x3_1 x4_3 (by omega) (by omega) (by omega)
theorem s_X9_isOrder (t_knots : Int32) (t_rowed : Int32) (h_t_knots : 0 ≤ t_knots.toInt ∧ t_knots.toInt ≤ 14) (h_t_rowed : 0 ≤ t_rowed.toInt ∧ t_rowed.toInt ≤ 14) : Sat (f_X9_isOrder t_knots t_rowed) (fun r => (0 ≤ r.toInt ∧ r.toInt ≤ 1) ∧ True) := by
  unfold f_X9_isOrder
  have l1 : (1 : Int32).toInt = 1 := rfl
  have l0 : (0 : Int32).toInt = 0 := rfl
  refine sat_ite (fun hc1 => ?_) (fun hc1 => ?_)
  · have thc1 := congrArg Int32.toInt hc1
    exact sat_some ⟨(by omega), trivial⟩
  · have thc1 := neq hc1
    exact sat_some ⟨(by omega), trivial⟩
theorem j_X9_rowWidth_43 (t_knots : Int32) (t_rowed : Int32) (t_beside : Nat → Int32) (t_row : Nat → Int32) (k_6 : Int32 → Int32 → Int32 → Option (Int32)) (g_6 : Int) (h_t_knots : 0 ≤ t_knots.toInt ∧ t_knots.toInt ≤ 14) (h_t_rowed : 0 ≤ t_rowed.toInt ∧ t_rowed.toInt ≤ 14) (h_t_beside : ∀ i, 0 ≤ (t_beside i).toInt ∧ (t_beside i).toInt ≤ 16383) (h_t_row : ∀ i, 0 ≤ (t_row i).toInt ∧ (t_row i).toInt ≤ 13) (hk_6 : ∀ (x1 : Int32) (x2 : Int32) (x3 : Int32), (0 ≤ x1.toInt ∧ x1.toInt ≤ 16383) → (0 ≤ x3.toInt ∧ x3.toInt ≤ 14) → (14 - x3.toInt < g_6) → Sat (k_6 x1 x2 x3) (fun r => True)) : ∀ (x1 : Int32) (x3 : Int32) (s0 : Int32), (0 ≤ x1.toInt ∧ x1.toInt ≤ 16383) → (0 ≤ x3.toInt ∧ x3.toInt ≤ 13) → (14 - x3.toInt ≤ g_6) → Sat (J_X9_rowWidth_43 t_knots t_rowed t_beside t_row k_6 x1 x3 s0) (fun r => True) := by
  intro x1 x3 s0 h_x1 h_x3 hg_6
  unfold J_X9_rowWidth_43
  have l1 : (1 : Int32).toInt = 1 := rfl
  refine sat_bnd fun x2_8 e1 => ?_
  have te1 := congrArg Int32.toInt e1
  refine sat_ldA (okI_of (by omega)) fun v9 e2 => ?_
  have hv9 := ra_get e2 h_t_row
  refine sat_bnd fun x1_10 e3 => ?_
  try (have te3 : 0 ≤ x1_10.toInt ∧ x1_10.toInt ≤ 16383 := by rw [e3]; exact (or_rg (by omega) (shl_rg (by omega))))
  refine sat_bnd fun x3_11 e4 => ?_
  try (have k5 : (x3 + (1 : Int32)).toInt = x3.toInt + (1 : Int32).toInt := ti_add (by omega) (by omega))
  have te4 := congrArg Int32.toInt e4
  exact hk_6 x1_10 x2_8 x3_11 (by omega) (by omega) (by omega)
theorem l_X9_rowWidth_6 (t_knots : Int32) (t_rowed : Int32) (t_beside : Nat → Int32) (t_row : Nat → Int32) (h_t_knots : 0 ≤ t_knots.toInt ∧ t_knots.toInt ≤ 14) (h_t_rowed : 0 ≤ t_rowed.toInt ∧ t_rowed.toInt ≤ 14) (h_t_beside : ∀ i, 0 ≤ (t_beside i).toInt ∧ (t_beside i).toInt ≤ 16383) (h_t_row : ∀ i, 0 ≤ (t_row i).toInt ∧ (t_row i).toInt ≤ 13) : ∀ (n : Nat) (x1 : Int32) (x2 : Int32) (x3 : Int32), (0 ≤ x1.toInt ∧ x1.toInt ≤ 16383) → (0 ≤ x3.toInt ∧ x3.toInt ≤ 14) → 14 - x3.toInt < (n : Int) → Sat (L_X9_rowWidth_6 t_knots t_rowed t_beside t_row n x1 x2 x3) (fun r => True) := by
  intro n
  induction n with
  | zero => intro x1 x2 x3 h_x1 h_x3 hM; exfalso; omega
  | succ n ih =>
    intro x1 x2 x3 h_x1 h_x3 hM
    rw [L_X9_rowWidth_6]
    refine sat_ite (fun hc1 => ?_) (fun hc1 => ?_)
    · have thc1 := ple hc1
      exact sat_some trivial
    · have thc1 := nle hc1
      refine sat_ldA (okI_of (by omega)) fun v4 e2 => ?_
      have hv4 := ra_get e2 h_t_row
      refine sat_cal (s_X9_around x1 v4 t_knots t_beside (by omega) (by omega) (by omega) h_t_beside) fun u5 hu5 => ?_
      obtain ⟨hu5_0, -⟩ := hu5
      refine sat_cal (s_X9_bits u5 (by omega)) fun u6 hu6 => ?_
      obtain ⟨hu6_0, -⟩ := hu6
      refine sat_bnd fun x4_7 e3 => ?_
      have te3 := congrArg Int32.toInt e3
      refine sat_ite (fun hc4 => ?_) (fun hc4 => ?_)
      · have thc4 := ple hc4
        exact j_X9_rowWidth_43 t_knots t_rowed t_beside t_row (fun y0 y1 y2 => L_X9_rowWidth_6 t_knots t_rowed t_beside t_row n y0 y1 y2) (n : Int) (by omega) (by omega) h_t_beside h_t_row (fun y0 y1 y2 z0 z1 zm => ih y0 y1 y2 z0 z1 zm) x1 x3 x2 (by omega) (by omega) (by omega)
      · have thc4 := nle hc4
        exact j_X9_rowWidth_43 t_knots t_rowed t_beside t_row (fun y0 y1 y2 => L_X9_rowWidth_6 t_knots t_rowed t_beside t_row n y0 y1 y2) (n : Int) (by omega) (by omega) h_t_beside h_t_row (fun y0 y1 y2 z0 z1 zm => ih y0 y1 y2 z0 z1 zm) x1 x3 x4_7 (by omega) (by omega) (by omega)
theorem s_X9_rowWidth (t_knots : Int32) (t_rowed : Int32) (t_beside : Nat → Int32) (t_row : Nat → Int32) (h_t_knots : 0 ≤ t_knots.toInt ∧ t_knots.toInt ≤ 14) (h_t_rowed : 0 ≤ t_rowed.toInt ∧ t_rowed.toInt ≤ 14) (h_t_beside : ∀ i, 0 ≤ (t_beside i).toInt ∧ (t_beside i).toInt ≤ 16383) (h_t_row : ∀ i, 0 ≤ (t_row i).toInt ∧ (t_row i).toInt ≤ 13) : Sat (f_X9_rowWidth t_knots t_rowed t_beside t_row) (fun r => True) := by
  unfold f_X9_rowWidth
  have l0 : (0 : Int32).toInt = 0 := rfl
  have lm1 : (-1 : Int32).toInt = -1 := rfl
  refine sat_bnd fun x1_1 e1 => ?_
  have te1 := congrArg Int32.toInt e1
  refine sat_bnd fun x2_2 e2 => ?_
  have te2 := congrArg Int32.toInt e2
  refine sat_bnd fun x3_3 e3 => ?_
  have te3 := congrArg Int32.toInt e3
  have hNN := NN_i
  exact l_X9_rowWidth_6 t_knots t_rowed t_beside t_row (by omega) (by omega) h_t_beside h_t_row NN x1_1 x2_2 x3_3 (by omega) (by omega) (by omega)
theorem l_X9_width_4 (t_bags : Int32) (t_bag : Nat → Int32) (h_t_bags : 0 ≤ t_bags.toInt ∧ t_bags.toInt ≤ 14) (h_t_bag : ∀ i, 0 ≤ (t_bag i).toInt ∧ (t_bag i).toInt ≤ 16383) : ∀ (n : Nat) (x1 : Int32) (x2 : Int32), (-1 ≤ x1.toInt ∧ x1.toInt ≤ 13) → (0 ≤ x2.toInt ∧ x2.toInt ≤ 14) → (∀ i : Nat, (i : Int) < x2.toInt → (pcN (t_bag i).toNatClampNeg : Int) - 1 ≤ x1.toInt) → 14 - x2.toInt < (n : Int) → Sat (L_X9_width_4 t_bags t_bag n x1 x2) (fun r => ((-1 ≤ r.toInt ∧ r.toInt ≤ 13) ∧ (t_bags.toInt = 0 ∨ WidOK t_bags t_bag r)) ∧ True) := by
  intro n
  induction n with
  | zero => intro x1 x2 h_x1 h_x2 hi0 hM; exfalso; omega
  | succ n ih =>
    intro x1 x2 h_x1 h_x2 hi0 hM
    rw [L_X9_width_4]
    have l1 : (1 : Int32).toInt = 1 := rfl
    have l0 : (0 : Int32).toInt = 0 := rfl
    have lm : (-1 : Int32).toInt = -1 := rfl
    refine sat_ite (fun hc => ?_) (fun hc => ?_)
    · have hc := ple hc
      refine sat_ite (fun h0 => ?_) (fun h0 => ?_)
      · have h0 := congrArg Int32.toInt h0
        exact sat_some ⟨⟨by omega, Or.inl (by omega)⟩, trivial⟩
      · exact sat_some ⟨⟨h_x1, Or.inr (fun i hi => hi0 i (by omega))⟩, trivial⟩
    · have hc := nle hc
      have n2 := tn (x := x2) (by omega)
      refine sat_ldA (okI_of (by omega)) fun v3 e3 => ?_
      refine sat_cal (s_X9_bits v3 (ra_get e3 h_t_bag)) fun u4 hu4 => ?_
      have hp := bits_ti hu4.1.1
      rw [e3] at hp
      have hr := hu4.1.2
      have k2 : (x2 + (1 : Int32)).toInt = x2.toInt + (1 : Int32).toInt := ti_add (by omega) (by omega)
      have k4 : (u4 - (1 : Int32)).toInt = u4.toInt - (1 : Int32).toInt := ti_sub (by omega) (by omega)
      refine sat_ite (fun hd => ?_) (fun hd => ?_)
      · have hd := ple hd
        refine sat_bnd fun x1_5 e5 => ?_
        refine sat_bnd fun x2_6 e6 => ?_
        have te5 := congrArg Int32.toInt e5
        have te6 := congrArg Int32.toInt e6
        refine ih x1_5 x2_6 (by omega) (by omega) (fun i hi => ?_) (by omega)
        by_cases e : i = x2.toNatClampNeg
        · subst e; omega
        · have := hi0 i (by omega); omega
      · have hd := nle hd
        refine sat_ldA (okI_of (by omega)) fun v7 e7 => ?_
        refine sat_cal (s_X9_bits v7 (ra_get e7 h_t_bag)) fun u8 hu8 => ?_
        have hp8 := bits_ti hu8.1.1
        rw [e7] at hp8
        have hr8 := hu8.1.2
        have k8 : (u8 - (1 : Int32)).toInt = u8.toInt - (1 : Int32).toInt := ti_sub (by omega) (by omega)
        refine sat_bnd fun x1_9 e9 => ?_
        refine sat_bnd fun x2_10 e10 => ?_
        have te9 := congrArg Int32.toInt e9
        have te10 := congrArg Int32.toInt e10
        refine ih x1_9 x2_10 (by omega) (by omega) (fun i hi => ?_) (by omega)
        by_cases e : i = x2.toNatClampNeg
        · subst e; omega
        · have := hi0 i (by omega); omega
theorem s_X9_width (t_bags : Int32) (t_bag : Nat → Int32) (h_t_bags : 0 ≤ t_bags.toInt ∧ t_bags.toInt ≤ 14) (h_t_bag : ∀ i, 0 ≤ (t_bag i).toInt ∧ (t_bag i).toInt ≤ 16383) : Sat (f_X9_width t_bags t_bag) (fun r => ((-1 ≤ r.toInt ∧ r.toInt ≤ 13) ∧ (t_bags.toInt = 0 ∨ WidOK t_bags t_bag r)) ∧ True) := by
  unfold f_X9_width
  have l0 : (0 : Int32).toInt = 0 := rfl
  have lm : (-1 : Int32).toInt = -1 := rfl
  refine sat_bnd fun x1_1 e1 => ?_
  refine sat_bnd fun x2_2 e2 => ?_
  have te1 := congrArg Int32.toInt e1
  have te2 := congrArg Int32.toInt e2
  have hNN := NN_i
  exact l_X9_width_4 t_bags t_bag h_t_bags h_t_bag NN x1_1 x2_2 (by omega) (by omega) (fun i hi => by exfalso; omega) (by omega)
theorem l_X9_make_88 (t_knots : Int32) (t_rowed : Int32) (t_beside : Nat → Int32) (t_row : Nat → Int32) (k_21 : Int32 → Int32 → Int32 → (Nat → Int32) → (Nat → Int32) → Option (Int32 × Int32 × (Nat → Int32) × (Nat → Int32))) (g_21 : Int) (h_t_knots : 0 ≤ t_knots.toInt ∧ t_knots.toInt ≤ 14) (h_t_rowed : 0 ≤ t_rowed.toInt ∧ t_rowed.toInt ≤ 14) (h_t_beside : ∀ i, 0 ≤ (t_beside i).toInt ∧ (t_beside i).toInt ≤ 16383) (h_t_row : ∀ i, 0 ≤ (t_row i).toInt ∧ (t_row i).toInt ≤ 13) (hk_21 : ∀ (x1 : Int32) (x2 : Int32) (t_bags : Int32) (t_bag : Nat → Int32) (t_up : Nat → Int32), (0 ≤ x1.toInt ∧ x1.toInt ≤ 16383) → (0 ≤ x2.toInt ∧ x2.toInt ≤ 14) → (0 ≤ t_bags.toInt ∧ t_bags.toInt ≤ 14) → (∀ i, 0 ≤ (t_bag i).toInt ∧ (t_bag i).toInt ≤ 16383) → (∀ i, -1 ≤ (t_up i).toInt ∧ (t_up i).toInt ≤ 13) → (14 - x2.toInt < g_21) → Sat (k_21 x1 x2 t_bags t_bag t_up) (fun r => (0 ≤ (r.2.1).toInt ∧ (r.2.1).toInt ≤ 14) ∧ (∀ i, 0 ≤ ((r.2.2.1) i).toInt ∧ ((r.2.2.1) i).toInt ≤ 16383) ∧ (∀ i, -1 ≤ ((r.2.2.2) i).toInt ∧ ((r.2.2.2) i).toInt ≤ 13) ∧ True)) : ∀ (n : Nat) (x1 : Int32) (x2 : Int32) (x3 : Int32) (x4 : Int32) (t_bags : Int32) (t_bag : Nat → Int32) (t_up : Nat → Int32), (0 ≤ x1.toInt ∧ x1.toInt ≤ 16383) → (0 ≤ x2.toInt ∧ x2.toInt ≤ 13) → (0 ≤ x3.toInt ∧ x3.toInt ≤ 16383) → (-1 ≤ x4.toInt ∧ x4.toInt ≤ 13) → (0 ≤ t_bags.toInt ∧ t_bags.toInt ≤ 14) → (∀ i, 0 ≤ (t_bag i).toInt ∧ (t_bag i).toInt ≤ 16383) → (∀ i, -1 ≤ (t_up i).toInt ∧ (t_up i).toInt ≤ 13) → (14 - x2.toInt ≤ g_21) → x4.toInt + 1 < (n : Int) → Sat (L_X9_make_88 t_knots t_rowed t_beside t_row k_21 n x1 x2 x3 x4 t_bags t_bag t_up) (fun r => (0 ≤ (r.2.1).toInt ∧ (r.2.1).toInt ≤ 14) ∧ (∀ i, 0 ≤ ((r.2.2.1) i).toInt ∧ ((r.2.2.1) i).toInt ≤ 16383) ∧ (∀ i, -1 ≤ ((r.2.2.2) i).toInt ∧ ((r.2.2.2) i).toInt ≤ 13) ∧ True) := by
  intro n
  induction n with
  | zero => intro x1 x2 x3 x4 t_bags t_bag t_up h_x1 h_x2 h_x3 h_x4 h_t_bags h_t_bag h_t_up hg_21 hM; exfalso; omega
  | succ n ih =>
    intro x1 x2 x3 x4 t_bags t_bag t_up h_x1 h_x2 h_x3 h_x4 h_t_bags h_t_bag h_t_up hg_21 hM
    rw [L_X9_make_88]
    have l1 : (1 : Int32).toInt = 1 := rfl
    refine sat_ite (fun hc1 => ?_) (fun hc1 => ?_)
    · have thc1 := ple hc1
      refine sat_ldA (okI_of (by omega)) fun v13 e2 => ?_
      have hv13 := ra_get e2 h_t_row
      refine sat_bnd fun x1_14 e3 => ?_
      try (have te3 : 0 ≤ x1_14.toInt ∧ x1_14.toInt ≤ 16383 := by rw [e3]; exact (or_rg (by omega) (shl_rg (by omega))))
      refine sat_bnd fun x2_15 e4 => ?_
      try (have k5 : (x2 + (1 : Int32)).toInt = x2.toInt + (1 : Int32).toInt := ti_add (by omega) (by omega))
      have te4 := congrArg Int32.toInt e4
      exact hk_21 x1_14 x2_15 t_bags t_bag t_up (by omega) (by omega) (by omega) h_t_bag h_t_up (by omega)
    · have thc1 := nle hc1
      refine sat_ldA (okI_of (by omega)) fun v16 e6 => ?_
      have hv16 := ra_get e6 h_t_row
      refine sat_ite (fun hc7 => ?_) (fun hc7 => ?_)
      · have thc7 := congrArg Int32.toInt hc7
        refine sat_stI (okI_of (by omega)) fun t_up_18 e8 => ?_
        have h_t_up_18 := ra_upd e8 h_t_up (by omega)
        refine sat_bnd fun x4_19 e9 => ?_
        have te9 : x4_19.toInt = x4.toInt - 1 := by rw [e9]; exact ti_dec (by omega)
        clear e9
        exact ih x1 x2 x3 x4_19 t_bags t_bag t_up_18 (by omega) (by omega) (by omega) (by omega) (by omega) h_t_bag h_t_up_18 (by omega) (by omega)
      · have thc7 := neq hc7
        refine sat_bnd fun x4_17 e10 => ?_
        have te10 : x4_17.toInt = x4.toInt - 1 := by rw [e10]; exact ti_dec (by omega)
        clear e10
        exact ih x1 x2 x3 x4_17 t_bags t_bag t_up (by omega) (by omega) (by omega) (by omega) (by omega) h_t_bag h_t_up (by omega) (by omega)
theorem l_X9_make_21 (t_knots : Int32) (t_rowed : Int32) (t_beside : Nat → Int32) (t_row : Nat → Int32) (h_t_knots : 0 ≤ t_knots.toInt ∧ t_knots.toInt ≤ 14) (h_t_rowed : 0 ≤ t_rowed.toInt ∧ t_rowed.toInt ≤ 14) (h_t_beside : ∀ i, 0 ≤ (t_beside i).toInt ∧ (t_beside i).toInt ≤ 16383) (h_t_row : ∀ i, 0 ≤ (t_row i).toInt ∧ (t_row i).toInt ≤ 13) : ∀ (n : Nat) (x1 : Int32) (x2 : Int32) (t_bags : Int32) (t_bag : Nat → Int32) (t_up : Nat → Int32), (0 ≤ x1.toInt ∧ x1.toInt ≤ 16383) → (0 ≤ x2.toInt ∧ x2.toInt ≤ 14) → (0 ≤ t_bags.toInt ∧ t_bags.toInt ≤ 14) → (∀ i, 0 ≤ (t_bag i).toInt ∧ (t_bag i).toInt ≤ 16383) → (∀ i, -1 ≤ (t_up i).toInt ∧ (t_up i).toInt ≤ 13) → 14 - x2.toInt < (n : Int) → Sat (L_X9_make_21 t_knots t_rowed t_beside t_row n x1 x2 t_bags t_bag t_up) (fun r => (0 ≤ (r.2.1).toInt ∧ (r.2.1).toInt ≤ 14) ∧ (∀ i, 0 ≤ ((r.2.2.1) i).toInt ∧ ((r.2.2.1) i).toInt ≤ 16383) ∧ (∀ i, -1 ≤ ((r.2.2.2) i).toInt ∧ ((r.2.2.2) i).toInt ≤ 13) ∧ True) := by
  intro n
  induction n with
  | zero => intro x1 x2 t_bags t_bag t_up h_x1 h_x2 h_t_bags h_t_bag h_t_up hM; exfalso; omega
  | succ n ih =>
    intro x1 x2 t_bags t_bag t_up h_x1 h_x2 h_t_bags h_t_bag h_t_up hM
    rw [L_X9_make_21]
    have l1 : (1 : Int32).toInt = 1 := rfl
    have lm1 : (-1 : Int32).toInt = -1 := rfl
    refine sat_ite (fun hc1 => ?_) (fun hc1 => ?_)
    · have thc1 := ple hc1
      refine sat_bnd fun t_bags_4 e2 => ?_
      have te2 := congrArg Int32.toInt e2
      refine sat_cal (s_X9_width t_bags_4 t_bag (by omega) h_t_bag) fun u5 hu5 => ?_
      obtain ⟨hu5_0, -⟩ := hu5
      exact sat_some ⟨(by (try dsimp only); omega), h_t_bag, h_t_up, trivial⟩
    · have thc1 := nle hc1
      refine sat_ldA (okI_of (by omega)) fun v6 e3 => ?_
      have hv6 := ra_get e3 h_t_row
      refine sat_cal (s_X9_around x1 v6 t_knots t_beside (by omega) (by omega) (by omega) h_t_beside) fun u7 hu7 => ?_
      obtain ⟨hu7_0, -⟩ := hu7
      refine sat_bnd fun x3_8 e4 => ?_
      have te4 := congrArg Int32.toInt e4
      refine sat_ldA (okI_of (by omega)) fun v9 e5 => ?_
      have tdv9 := congrArg Int32.toInt (e5.trans e3.symm)
      have hv9 := ra_get e5 h_t_row
      refine sat_stI (okI_of (by omega)) fun t_bag_10 e6 => ?_
      have h_t_bag_10 := ra_upd e6 h_t_bag (or_rg (by omega) (shl_rg (by omega)))
      try (have k8 : (x2 + (1 : Int32)).toInt = x2.toInt + (1 : Int32).toInt := ti_add (by omega) (by omega))
      refine sat_ite (fun hc7 => ?_) (fun hc7 => ?_)
      · have thc7 := ple hc7
        refine sat_stI (okI_of (by omega)) fun t_up_11 e9 => ?_
        have h_t_up_11 := ra_upd e9 h_t_up (by omega)
        refine sat_bnd fun x4_12 e10 => ?_
        try (have k11 : (t_rowed - (1 : Int32)).toInt = t_rowed.toInt - (1 : Int32).toInt := ti_sub (by omega) (by omega))
        have te10 := congrArg Int32.toInt e10
        have hNN := NN_i
        exact l_X9_make_88 t_knots t_rowed t_beside t_row (fun y0 y1 y2 y3 y4 => L_X9_make_21 t_knots t_rowed t_beside t_row n y0 y1 y2 y3 y4) (n : Int) (by omega) (by omega) h_t_beside h_t_row (fun y0 y1 y2 y3 y4 z0 z1 z2 z3 z4 zm => ih y0 y1 y2 y3 y4 z0 z1 z2 z3 z4 zm) NN x1 x2 x3_8 x4_12 t_bags t_bag_10 t_up_11 (by omega) (by omega) (by omega) (by omega) (by omega) h_t_bag_10 h_t_up_11 (by omega) (by omega)
      · have thc7 := nle hc7
        refine sat_stI (okI_of (by omega)) fun t_up_20 e12 => ?_
        have h_t_up_20 := ra_upd e12 h_t_up (by omega)
        refine sat_bnd fun x4_21 e13 => ?_
        try (have k14 : (t_rowed - (1 : Int32)).toInt = t_rowed.toInt - (1 : Int32).toInt := ti_sub (by omega) (by omega))
        have te13 := congrArg Int32.toInt e13
        have hNN := NN_i
        exact l_X9_make_88 t_knots t_rowed t_beside t_row (fun y0 y1 y2 y3 y4 => L_X9_make_21 t_knots t_rowed t_beside t_row n y0 y1 y2 y3 y4) (n : Int) (by omega) (by omega) h_t_beside h_t_row (fun y0 y1 y2 y3 y4 z0 z1 z2 z3 z4 zm => ih y0 y1 y2 y3 y4 z0 z1 z2 z3 z4 zm) NN x1 x2 x3_8 x4_21 t_bags t_bag_10 t_up_20 (by omega) (by omega) (by omega) (by omega) (by omega) h_t_bag_10 h_t_up_20 (by omega) (by omega)
theorem s_X9_make (t_knots : Int32) (t_rowed : Int32) (t_bags : Int32) (t_beside : Nat → Int32) (t_row : Nat → Int32) (t_bag : Nat → Int32) (t_up : Nat → Int32) (h_t_knots : 0 ≤ t_knots.toInt ∧ t_knots.toInt ≤ 14) (h_t_rowed : 0 ≤ t_rowed.toInt ∧ t_rowed.toInt ≤ 14) (h_t_bags : 0 ≤ t_bags.toInt ∧ t_bags.toInt ≤ 14) (h_t_beside : ∀ i, 0 ≤ (t_beside i).toInt ∧ (t_beside i).toInt ≤ 16383) (h_t_row : ∀ i, 0 ≤ (t_row i).toInt ∧ (t_row i).toInt ≤ 13) (h_t_bag : ∀ i, 0 ≤ (t_bag i).toInt ∧ (t_bag i).toInt ≤ 16383) (h_t_up : ∀ i, -1 ≤ (t_up i).toInt ∧ (t_up i).toInt ≤ 13) : Sat (f_X9_make t_knots t_rowed t_bags t_beside t_row t_bag t_up) (fun r => (0 ≤ (r.2.1).toInt ∧ (r.2.1).toInt ≤ 14) ∧ (∀ i, 0 ≤ ((r.2.2.1) i).toInt ∧ ((r.2.2.1) i).toInt ≤ 16383) ∧ (∀ i, -1 ≤ ((r.2.2.2) i).toInt ∧ ((r.2.2.2) i).toInt ≤ 13) ∧ True) := by
  unfold f_X9_make
  have l0 : (0 : Int32).toInt = 0 := rfl
  refine sat_cal (s_X9_isOrder t_knots t_rowed (by omega) (by omega)) fun u1 hu1 => ?_
  obtain ⟨hu1_0, -⟩ := hu1
  refine sat_ite (fun hc1 => ?_) (fun hc1 => ?_)
  · have thc1 := congrArg Int32.toInt hc1
    exact sat_some ⟨(by (try dsimp only); omega), h_t_bag, h_t_up, trivial⟩
  · have thc1 := neq hc1
    refine sat_ite (fun hc2 => ?_) (fun hc2 => ?_)
    · have thc2 := congrArg Int32.toInt hc2
      exact sat_some ⟨(by (try dsimp only); omega), h_t_bag, h_t_up, trivial⟩
    · have thc2 := neq hc2
      refine sat_bnd fun x1_2 e3 => ?_
      have te3 := congrArg Int32.toInt e3
      refine sat_bnd fun x2_3 e4 => ?_
      have te4 := congrArg Int32.toInt e4
      have hNN := NN_i
      exact l_X9_make_21 t_knots t_rowed t_beside t_row (by omega) (by omega) h_t_beside h_t_row NN x1_2 x2_3 t_bags t_bag t_up (by omega) (by omega) (by omega) h_t_bag h_t_up (by omega)
theorem l_X9_fills_51 (t_knots : Int32) (t_rowed : Int32) (t_beside : Nat → Int32) (t_row : Nat → Int32) (k_39 : Int32 → Int32 → Int32 → Int32 → Int32 → Option (Int32)) (g_15 : Int) (g_39 : Int) (h_t_knots : 0 ≤ t_knots.toInt ∧ t_knots.toInt ≤ 14) (h_t_rowed : 0 ≤ t_rowed.toInt ∧ t_rowed.toInt ≤ 14) (h_t_beside : ∀ i, 0 ≤ (t_beside i).toInt ∧ (t_beside i).toInt ≤ 16383) (h_t_row : ∀ i, 0 ≤ (t_row i).toInt ∧ (t_row i).toInt ≤ 13) (hk_39 : ∀ (x1 : Int32) (x2 : Int32) (x3 : Int32) (x4 : Int32) (x5 : Int32), (0 ≤ x2.toInt ∧ x2.toInt ≤ 16383) → (0 ≤ x3.toInt ∧ x3.toInt ≤ 13) → (0 ≤ x4.toInt ∧ x4.toInt ≤ 16383) → (0 ≤ x5.toInt ∧ x5.toInt ≤ 14) → (14 - x3.toInt ≤ g_15) → (14 - x5.toInt < g_39) → Sat (k_39 x1 x2 x3 x4 x5) (fun r => True)) : ∀ (n : Nat) (x1 : Int32) (x2 : Int32) (x3 : Int32) (x4 : Int32) (x5 : Int32) (x6 : Int32), (0 ≤ x2.toInt ∧ x2.toInt ≤ 16383) → (0 ≤ x3.toInt ∧ x3.toInt ≤ 13) → (0 ≤ x4.toInt ∧ x4.toInt ≤ 16383) → (0 ≤ x5.toInt ∧ x5.toInt ≤ 13) → (0 ≤ x6.toInt ∧ x6.toInt ≤ 14) → (14 - x3.toInt ≤ g_15) → (14 - x5.toInt ≤ g_39) → 14 - x6.toInt < (n : Int) → Sat (L_X9_fills_51 t_knots t_rowed t_beside t_row k_39 n x1 x2 x3 x4 x5 x6) (fun r => True) := by
  intro n
  induction n with
  | zero => intro x1 x2 x3 x4 x5 x6 h_x2 h_x3 h_x4 h_x5 h_x6 hg_15 hg_39 hM; exfalso; omega
  | succ n ih =>
    intro x1 x2 x3 x4 x5 x6 h_x2 h_x3 h_x4 h_x5 h_x6 hg_15 hg_39 hM
    rw [L_X9_fills_51]
    have l1 : (1 : Int32).toInt = 1 := rfl
    have l0 : (0 : Int32).toInt = 0 := rfl
    refine sat_ite (fun hc1 => ?_) (fun hc1 => ?_)
    · have thc1 := ple hc1
      refine sat_bnd fun x5_13 e2 => ?_
      try (have k3 : (x5 + (1 : Int32)).toInt = x5.toInt + (1 : Int32).toInt := ti_add (by omega) (by omega))
      have te2 := congrArg Int32.toInt e2
      exact hk_39 x1 x2 x3 x4 x5_13 (by omega) (by omega) (by omega) (by omega) (by omega) (by omega)
    · have thc1 := nle hc1
      refine sat_ite (fun hc4 => ?_) (fun hc4 => ?_)
      · have thc4 := congrArg Int32.toInt hc4
        refine sat_ite (fun hc5 => ?_) (fun hc5 => ?_)
        · have thc5 := congrArg Int32.toInt hc5
          refine sat_cal (s_X9_around x2 x5 t_knots t_beside (by omega) (by omega) (by omega) h_t_beside) fun u16 hu16 => ?_
          obtain ⟨hu16_0, -⟩ := hu16
          refine sat_ite (fun hc6 => ?_) (fun hc6 => ?_)
          · have thc6 := congrArg Int32.toInt hc6
            refine sat_bnd fun x1_18 e7 => ?_
            try (have k8 : (x1 + (1 : Int32)).toInt = x1.toInt + (1 : Int32).toInt := ti_add (by omega) (by omega))
            have te7 := congrArg Int32.toInt e7
            refine sat_bnd fun x6_19 e9 => ?_
            try (have k10 : (x6 + (1 : Int32)).toInt = x6.toInt + (1 : Int32).toInt := ti_add (by omega) (by omega))
            have te9 := congrArg Int32.toInt e9
            exact ih x1_18 x2 x3 x4 x5 x6_19 (by omega) (by omega) (by omega) (by omega) (by omega) (by omega) (by omega) (by omega)
          · have thc6 := neq hc6
            refine sat_bnd fun x6_17 e11 => ?_
            try (have k12 : (x6 + (1 : Int32)).toInt = x6.toInt + (1 : Int32).toInt := ti_add (by omega) (by omega))
            have te11 := congrArg Int32.toInt e11
            exact ih x1 x2 x3 x4 x5 x6_17 (by omega) (by omega) (by omega) (by omega) (by omega) (by omega) (by omega) (by omega)
        · have thc5 := neq hc5
          refine sat_bnd fun x6_15 e13 => ?_
          try (have k14 : (x6 + (1 : Int32)).toInt = x6.toInt + (1 : Int32).toInt := ti_add (by omega) (by omega))
          have te13 := congrArg Int32.toInt e13
          exact ih x1 x2 x3 x4 x5 x6_15 (by omega) (by omega) (by omega) (by omega) (by omega) (by omega) (by omega) (by omega)
      · have thc4 := neq hc4
        refine sat_bnd fun x6_14 e15 => ?_
        try (have k16 : (x6 + (1 : Int32)).toInt = x6.toInt + (1 : Int32).toInt := ti_add (by omega) (by omega))
        have te15 := congrArg Int32.toInt e15
        exact ih x1 x2 x3 x4 x5 x6_14 (by omega) (by omega) (by omega) (by omega) (by omega) (by omega) (by omega) (by omega)
theorem l_X9_fills_39 (t_knots : Int32) (t_rowed : Int32) (t_beside : Nat → Int32) (t_row : Nat → Int32) (k_15 : Int32 → Int32 → Int32 → Option (Int32)) (g_15 : Int) (h_t_knots : 0 ≤ t_knots.toInt ∧ t_knots.toInt ≤ 14) (h_t_rowed : 0 ≤ t_rowed.toInt ∧ t_rowed.toInt ≤ 14) (h_t_beside : ∀ i, 0 ≤ (t_beside i).toInt ∧ (t_beside i).toInt ≤ 16383) (h_t_row : ∀ i, 0 ≤ (t_row i).toInt ∧ (t_row i).toInt ≤ 13) (hk_15 : ∀ (x1 : Int32) (x2 : Int32) (x3 : Int32), (0 ≤ x2.toInt ∧ x2.toInt ≤ 16383) → (0 ≤ x3.toInt ∧ x3.toInt ≤ 14) → (14 - x3.toInt < g_15) → Sat (k_15 x1 x2 x3) (fun r => True)) : ∀ (n : Nat) (x1 : Int32) (x2 : Int32) (x3 : Int32) (x4 : Int32) (x5 : Int32), (0 ≤ x2.toInt ∧ x2.toInt ≤ 16383) → (0 ≤ x3.toInt ∧ x3.toInt ≤ 13) → (0 ≤ x4.toInt ∧ x4.toInt ≤ 16383) → (0 ≤ x5.toInt ∧ x5.toInt ≤ 14) → (14 - x3.toInt ≤ g_15) → 14 - x5.toInt < (n : Int) → Sat (L_X9_fills_39 t_knots t_rowed t_beside t_row k_15 n x1 x2 x3 x4 x5) (fun r => True) := by
  intro n
  induction n with
  | zero => intro x1 x2 x3 x4 x5 h_x2 h_x3 h_x4 h_x5 hg_15 hM; exfalso; omega
  | succ n ih =>
    intro x1 x2 x3 x4 x5 h_x2 h_x3 h_x4 h_x5 hg_15 hM
    rw [L_X9_fills_39]
    have l1 : (1 : Int32).toInt = 1 := rfl
    have l0 : (0 : Int32).toInt = 0 := rfl
    refine sat_ite (fun hc1 => ?_) (fun hc1 => ?_)
    · have thc1 := ple hc1
      refine sat_ldA (okI_of (by omega)) fun v9 e2 => ?_
      have hv9 := ra_get e2 h_t_row
      refine sat_bnd fun x2_10 e3 => ?_
      try (have te3 : 0 ≤ x2_10.toInt ∧ x2_10.toInt ≤ 16383 := by rw [e3]; exact (or_rg (by omega) (shl_rg (by omega))))
      refine sat_bnd fun x3_11 e4 => ?_
      try (have k5 : (x3 + (1 : Int32)).toInt = x3.toInt + (1 : Int32).toInt := ti_add (by omega) (by omega))
      have te4 := congrArg Int32.toInt e4
      exact hk_15 x1 x2_10 x3_11 (by omega) (by omega) (by omega)
    · have thc1 := nle hc1
      refine sat_bnd fun x6_12 e6 => ?_
      have te6 := congrArg Int32.toInt e6
      have hNN := NN_i
      exact l_X9_fills_51 t_knots t_rowed t_beside t_row (fun y0 y1 y2 y3 y4 => L_X9_fills_39 t_knots t_rowed t_beside t_row k_15 n y0 y1 y2 y3 y4) g_15 (n : Int) (by omega) (by omega) h_t_beside h_t_row (fun y0 y1 y2 y3 y4 z0 z1 z2 z3 z4 zm => ih y0 y1 y2 y3 y4 z0 z1 z2 z3 z4 zm) NN x1 x2 x3 x4 x5 x6_12 (by omega) (by omega) (by omega) (by omega) (by omega) (by omega) (by omega) (by omega)
theorem l_X9_fills_15 (t_knots : Int32) (t_rowed : Int32) (t_beside : Nat → Int32) (t_row : Nat → Int32) (h_t_knots : 0 ≤ t_knots.toInt ∧ t_knots.toInt ≤ 14) (h_t_rowed : 0 ≤ t_rowed.toInt ∧ t_rowed.toInt ≤ 14) (h_t_beside : ∀ i, 0 ≤ (t_beside i).toInt ∧ (t_beside i).toInt ≤ 16383) (h_t_row : ∀ i, 0 ≤ (t_row i).toInt ∧ (t_row i).toInt ≤ 13) : ∀ (n : Nat) (x1 : Int32) (x2 : Int32) (x3 : Int32), (0 ≤ x2.toInt ∧ x2.toInt ≤ 16383) → (0 ≤ x3.toInt ∧ x3.toInt ≤ 14) → 14 - x3.toInt < (n : Int) → Sat (L_X9_fills_15 t_knots t_rowed t_beside t_row n x1 x2 x3) (fun r => True) := by
  intro n
  induction n with
  | zero => intro x1 x2 x3 h_x2 h_x3 hM; exfalso; omega
  | succ n ih =>
    intro x1 x2 x3 h_x2 h_x3 hM
    rw [L_X9_fills_15]
    have l0 : (0 : Int32).toInt = 0 := rfl
    refine sat_ite (fun hc1 => ?_) (fun hc1 => ?_)
    · have thc1 := ple hc1
      exact sat_some trivial
    · have thc1 := nle hc1
      refine sat_ldA (okI_of (by omega)) fun v5 e2 => ?_
      have hv5 := ra_get e2 h_t_row
      refine sat_cal (s_X9_around x2 v5 t_knots t_beside (by omega) (by omega) (by omega) h_t_beside) fun u6 hu6 => ?_
      obtain ⟨hu6_0, -⟩ := hu6
      refine sat_bnd fun x4_7 e3 => ?_
      have te3 := congrArg Int32.toInt e3
      refine sat_bnd fun x5_8 e4 => ?_
      have te4 := congrArg Int32.toInt e4
      have hNN := NN_i
      exact l_X9_fills_39 t_knots t_rowed t_beside t_row (fun y0 y1 y2 => L_X9_fills_15 t_knots t_rowed t_beside t_row n y0 y1 y2) (n : Int) (by omega) (by omega) h_t_beside h_t_row (fun y0 y1 y2 z0 z1 zm => ih y0 y1 y2 z0 z1 zm) NN x1 x2 x3 x4_7 x5_8 (by omega) (by omega) (by omega) (by omega) (by omega) (by omega)
theorem s_X9_fills (t_knots : Int32) (t_rowed : Int32) (t_beside : Nat → Int32) (t_row : Nat → Int32) (h_t_knots : 0 ≤ t_knots.toInt ∧ t_knots.toInt ≤ 14) (h_t_rowed : 0 ≤ t_rowed.toInt ∧ t_rowed.toInt ≤ 14) (h_t_beside : ∀ i, 0 ≤ (t_beside i).toInt ∧ (t_beside i).toInt ≤ 16383) (h_t_row : ∀ i, 0 ≤ (t_row i).toInt ∧ (t_row i).toInt ≤ 13) : Sat (f_X9_fills t_knots t_rowed t_beside t_row) (fun r => True) := by
  unfold f_X9_fills
  have l0 : (0 : Int32).toInt = 0 := rfl
  refine sat_cal (s_X9_isOrder t_knots t_rowed (by omega) (by omega)) fun u1 hu1 => ?_
  obtain ⟨hu1_0, -⟩ := hu1
  refine sat_ite (fun hc1 => ?_) (fun hc1 => ?_)
  · have thc1 := congrArg Int32.toInt hc1
    exact sat_some trivial
  · have thc1 := neq hc1
    refine sat_bnd fun x1_2 e2 => ?_
    have te2 := congrArg Int32.toInt e2
    refine sat_bnd fun x2_3 e3 => ?_
    have te3 := congrArg Int32.toInt e3
    refine sat_bnd fun x3_4 e4 => ?_
    have te4 := congrArg Int32.toInt e4
    have hNN := NN_i
    exact l_X9_fills_15 t_knots t_rowed t_beside t_row (by omega) (by omega) h_t_beside h_t_row NN x1_2 x2_3 x3_4 (by omega) (by omega) (by omega)
theorem l_X9_fewest_22 (t_knots : Int32) (t_beside : Nat → Int32) (k_7 : Int32 → Int32 → (Nat → Int32) → Option (Int32 × Int32 × (Nat → Int32))) (g_7 : Int) (h_t_knots : 0 ≤ t_knots.toInt ∧ t_knots.toInt ≤ 14) (h_t_beside : ∀ i, 0 ≤ (t_beside i).toInt ∧ (t_beside i).toInt ≤ 16383) (hk_7 : ∀ (x1 : Int32) (t_rowed : Int32) (t_row : Nat → Int32), (0 ≤ x1.toInt ∧ x1.toInt ≤ 16383) → (0 ≤ t_rowed.toInt ∧ t_rowed.toInt ≤ 14) → (∀ i, 0 ≤ (t_row i).toInt ∧ (t_row i).toInt ≤ 13) → (t_rowed.toInt ≤ t_knots.toInt) → (x1 = nI (rmN t_row t_rowed.toNatClampNeg)) → (RW t_rowed t_row) → (14 - t_rowed.toInt < g_7) → Sat (k_7 x1 t_rowed t_row) (fun r => (0 ≤ (r.2.1).toInt ∧ (r.2.1).toInt ≤ 14) ∧ (∀ i, 0 ≤ ((r.2.2) i).toInt ∧ ((r.2.2) i).toInt ≤ 13) ∧ (RW r.2.1 r.2.2) ∧ True)) : ∀ (n : Nat) (x1 : Int32) (x2 : Int32) (x3 : Int32) (t_rowed : Int32) (t_row : Nat → Int32), (0 ≤ x1.toInt ∧ x1.toInt ≤ 16383) → (-1 ≤ x2.toInt ∧ x2.toInt ≤ 13) → (0 ≤ x3.toInt ∧ x3.toInt ≤ 14) → (0 ≤ t_rowed.toInt ∧ t_rowed.toInt ≤ 13) → (∀ i, 0 ≤ (t_row i).toInt ∧ (t_row i).toInt ≤ 13) → (t_rowed.toInt < t_knots.toInt) → (x1 = nI (rmN t_row t_rowed.toNatClampNeg)) → (RW t_rowed t_row) → ((x2.toInt = -1 ∧ ∀ i : Nat, (i : Int) < x3.toInt → x1.toNatClampNeg.testBit i = true) ∨ (0 ≤ x2.toInt ∧ x1.toNatClampNeg.testBit x2.toNatClampNeg = false)) → (14 - t_rowed.toInt ≤ g_7) → 14 - x3.toInt < (n : Int) → Sat (L_X9_fewest_22 t_knots t_beside k_7 n x1 x2 x3 t_rowed t_row) (fun r => (0 ≤ (r.2.1).toInt ∧ (r.2.1).toInt ≤ 14) ∧ (∀ i, 0 ≤ ((r.2.2) i).toInt ∧ ((r.2.2) i).toInt ≤ 13) ∧ (RW r.2.1 r.2.2) ∧ True) := by
  intro n
  induction n with
  | zero => intro x1 x2 x3 t_rowed t_row h_x1 h_x2 h_x3 h_t_rowed h_t_row hi0 hi1 hi2 hi3 hg_7 hM; exfalso; omega
  | succ n ih =>
    intro x1 x2 x3 t_rowed t_row h_x1 h_x2 h_x3 h_t_rowed h_t_row hi0 hi1 hi2 hi3 hg_7 hM
    rw [L_X9_fewest_22]
    have l1 : (1 : Int32).toInt = 1 := rfl
    have l0 : (0 : Int32).toInt = 0 := rfl
    have nr := tn (x := t_rowed) h_t_rowed.1
    have hm := rmN_lt h_t_row t_rowed.toNatClampNeg
    have ex1 : x1.toNatClampNeg = rmN t_row t_rowed.toNatClampNeg := by rw [hi1, nI_clamp (by omega)]
    refine sat_ite (fun hc => ?_) (fun hc => ?_)
    · have hc := ple hc
      have hf : 0 ≤ x2.toInt ∧ x1.toNatClampNeg.testBit x2.toNatClampNeg = false := by
        rcases hi3 with ⟨h1, h2⟩ | h
        · exfalso
          have nk := tn (x := t_knots) h_t_knots.1
          have q1 : t_knots.toNatClampNeg ≤ pcN x1.toNatClampNeg := pcU_full (by omega) (fun i hi => h2 i (by omega))
          have q2 : pcN (rmN t_row t_rowed.toNatClampNeg) = t_rowed.toNatClampNeg := hi2
          rw [ex1] at q1
          omega
        · exact h
      rw [ex1] at hf
      obtain ⟨q1, q2, q3⟩ := RW_app (r := t_rowed) (x := x2) (f := t_row) (by omega) (by omega) hi2 hf.2
      refine sat_stI (okI_of (by omega)) fun t_row_6 e6 => ?_
      have k2 : (t_rowed + (1 : Int32)).toInt = t_rowed.toInt + (1 : Int32).toInt := ti_add (by omega) (by omega)
      refine sat_bnd fun t_rowed_7 e7 => ?_
      have te7 := congrArg Int32.toInt e7
      refine sat_bnd fun x1_8 e8 => ?_
      have h8 : 0 ≤ x1_8.toInt ∧ x1_8.toInt ≤ 16383 := by rw [e8]; exact or_rg h_x1 (shl_rg (by omega))
      obtain ⟨j, b1, b2, b3, b4⟩ := mk_of (x := x2) (hi := 13) (by omega)
      refine hk_7 x1_8 t_rowed_7 t_row_6 h8 (by omega) (ra_upd e6 h_t_row (by omega)) (by omega) ?_ (by rw [e7, e6]; exact q2) (by omega)
      rw [e8, e7, q3, e6, rmN_app, hi1, b3, nx_bit1 j (by omega), nx_or, nI_clamp b2]
    · have hc := nle hc
      have n3 := tn (x := x3) h_x3.1
      have k3 : (x3 + (1 : Int32)).toInt = x3.toInt + (1 : Int32).toInt := ti_add (by omega) (by omega)
      refine sat_ite (fun hd => ?_) (fun hd => ?_)
      · rw [has0_tb h_x1 (by omega)] at hd
        refine sat_ite (fun he => ?_) (fun he => ?_)
        · refine sat_bnd fun x2_10 e2 => ?_
          refine sat_bnd fun x3_11 e3 => ?_
          have te2 := congrArg Int32.toInt e2
          have te3 := congrArg Int32.toInt e3
          exact ih x1 x2_10 x3_11 t_rowed t_row h_x1 (by omega) (by omega) h_t_rowed h_t_row hi0 hi1 hi2 (Or.inr ⟨by omega, by rw [e2]; exact hd⟩) hg_7 (by omega)
        · have he := nlt he
          refine sat_cal (s_X9_around x1 x3 t_knots t_beside h_x1 (by omega) h_t_knots h_t_beside) fun u12 hu12 => ?_
          refine sat_cal (s_X9_bits u12 hu12.1) fun u13 _ => ?_
          refine sat_cal (s_X9_around x1 x2 t_knots t_beside h_x1 (by omega) h_t_knots h_t_beside) fun u14 hu14 => ?_
          refine sat_cal (s_X9_bits u14 hu14.1) fun u15 _ => ?_
          refine sat_ite (fun _ => ?_) (fun _ => ?_)
          · refine sat_bnd fun x3_16 e3 => ?_
            have te3 := congrArg Int32.toInt e3
            exact ih x1 x2 x3_16 t_rowed t_row h_x1 h_x2 (by omega) h_t_rowed h_t_row hi0 hi1 hi2 (Or.inr (hi3.resolve_left (fun z => by omega))) hg_7 (by omega)
          · refine sat_bnd fun x2_17 e2 => ?_
            refine sat_bnd fun x3_18 e3 => ?_
            have te2 := congrArg Int32.toInt e2
            have te3 := congrArg Int32.toInt e3
            exact ih x1 x2_17 x3_18 t_rowed t_row h_x1 (by omega) (by omega) h_t_rowed h_t_row hi0 hi1 hi2 (Or.inr ⟨by omega, by rw [e2]; exact hd⟩) hg_7 (by omega)
      · rw [has0_tb h_x1 (by omega)] at hd
        refine sat_bnd fun x3_9 e3 => ?_
        have te3 := congrArg Int32.toInt e3
        refine ih x1 x2 x3_9 t_rowed t_row h_x1 h_x2 (by omega) h_t_rowed h_t_row hi0 hi1 hi2 ?_ hg_7 (by omega)
        rcases hi3 with ⟨h1, h2⟩ | h
        · refine Or.inl ⟨h1, fun i hi => ?_⟩
          by_cases e : i = x3.toNatClampNeg
          · subst e; simpa using hd
          · exact h2 i (by omega)
        · exact Or.inr h
theorem l_X9_fewest_7 (t_knots : Int32) (t_beside : Nat → Int32) (h_t_knots : 0 ≤ t_knots.toInt ∧ t_knots.toInt ≤ 14) (h_t_beside : ∀ i, 0 ≤ (t_beside i).toInt ∧ (t_beside i).toInt ≤ 16383) : ∀ (n : Nat) (x1 : Int32) (t_rowed : Int32) (t_row : Nat → Int32), (0 ≤ x1.toInt ∧ x1.toInt ≤ 16383) → (0 ≤ t_rowed.toInt ∧ t_rowed.toInt ≤ 14) → (∀ i, 0 ≤ (t_row i).toInt ∧ (t_row i).toInt ≤ 13) → (t_rowed.toInt ≤ t_knots.toInt) → (x1 = nI (rmN t_row t_rowed.toNatClampNeg)) → (RW t_rowed t_row) → 14 - t_rowed.toInt < (n : Int) → Sat (L_X9_fewest_7 t_knots t_beside n x1 t_rowed t_row) (fun r => (0 ≤ (r.2.1).toInt ∧ (r.2.1).toInt ≤ 14) ∧ (∀ i, 0 ≤ ((r.2.2) i).toInt ∧ ((r.2.2) i).toInt ≤ 13) ∧ (RW r.2.1 r.2.2) ∧ True) := by
  intro n
  induction n with
  | zero => intro x1 t_rowed t_row h_x1 h_t_rowed h_t_row hi0 hi1 hi2 hM; exfalso; omega
  | succ n ih =>
    intro x1 t_rowed t_row h_x1 h_t_rowed h_t_row hi0 hi1 hi2 hM
    rw [L_X9_fewest_7]
    have l0 : (0 : Int32).toInt = 0 := rfl
    have lm : (-1 : Int32).toInt = -1 := rfl
    refine sat_ite (fun hc => ?_) (fun hc => ?_)
    · refine sat_cal (s_X9_rowWidth t_knots t_rowed t_beside t_row h_t_knots h_t_rowed h_t_beside h_t_row) fun u3 _ => ?_
      exact sat_some ⟨h_t_rowed, h_t_row, hi2, trivial⟩
    · have hc := nle hc
      refine sat_bnd fun x2_4 e2 => ?_
      refine sat_bnd fun x3_5 e3 => ?_
      have te2 := congrArg Int32.toInt e2
      have te3 := congrArg Int32.toInt e3
      have hNN := NN_i
      exact l_X9_fewest_22 t_knots t_beside (fun y0 y1 y2 => L_X9_fewest_7 t_knots t_beside n y0 y1 y2) (n : Int) h_t_knots h_t_beside (fun y0 y1 y2 z0 z1 z2 z3 z4 z5 zm => ih y0 y1 y2 z0 z1 z2 z3 z4 z5 zm) NN x1 x2_4 x3_5 t_rowed t_row h_x1 (by omega) (by omega) (by omega) h_t_row (by omega) hi1 hi2 (Or.inl ⟨by omega, fun i hi => by exfalso; omega⟩) (by omega) (by omega)
theorem s_X9_fewest (t_knots : Int32) (t_rowed : Int32) (t_beside : Nat → Int32) (t_row : Nat → Int32) (h_t_knots : 0 ≤ t_knots.toInt ∧ t_knots.toInt ≤ 14) (h_t_rowed : 0 ≤ t_rowed.toInt ∧ t_rowed.toInt ≤ 14) (h_t_beside : ∀ i, 0 ≤ (t_beside i).toInt ∧ (t_beside i).toInt ≤ 16383) (h_t_row : ∀ i, 0 ≤ (t_row i).toInt ∧ (t_row i).toInt ≤ 13) : Sat (f_X9_fewest t_knots t_rowed t_beside t_row) (fun r => (0 ≤ (r.2.1).toInt ∧ (r.2.1).toInt ≤ 14) ∧ (∀ i, 0 ≤ ((r.2.2) i).toInt ∧ ((r.2.2) i).toInt ≤ 13) ∧ (RW r.2.1 r.2.2) ∧ True) := by
  unfold f_X9_fewest
  have l0 : (0 : Int32).toInt = 0 := rfl
  refine sat_bnd fun t_rowed_1 e1 => ?_
  refine sat_bnd fun x1_2 e2 => ?_
  have te1 := congrArg Int32.toInt e1
  have te2 := congrArg Int32.toInt e2
  have hNN := NN_i
  exact l_X9_fewest_7 t_knots t_beside h_t_knots h_t_beside NN x1_2 t_rowed_1 t_row (by omega) (by omega) h_t_row (by omega) (by rw [e1, e2]; rfl) (by rw [e1]; exact RW_0 t_row) (by omega)
theorem l_X9_least_152 (t_knots : Int32) (t_beside : Nat → Int32) (k_139 : Int32 → Int32 → Int32 → (Nat → Int32) → (Nat → Int32) → Option (Int32 × Int32 × (Nat → Int32) × (Nat → Int32))) (g_139 : Int) (h_t_knots : 0 ≤ t_knots.toInt ∧ t_knots.toInt ≤ 14) (h_t_beside : ∀ i, 0 ≤ (t_beside i).toInt ∧ (t_beside i).toInt ≤ 16383) (hk_139 : ∀ (x1 : Int32) (x2 : Int32) (t_rowed : Int32) (t_row : Nat → Int32) (t_least : Nat → Int32), (0 ≤ x2.toInt ∧ x2.toInt ≤ 16383) → (0 ≤ t_rowed.toInt ∧ t_rowed.toInt ≤ 14) → (∀ i, 0 ≤ (t_row i).toInt ∧ (t_row i).toInt ≤ 13) → (t_rowed.toInt ≤ t_knots.toInt) → (x2 = nI (rmN t_row t_rowed.toNatClampNeg)) → (RW t_rowed t_row) → (∀ i : Nat, x2.toNatClampNeg.testBit i = true → i < t_knots.toNatClampNeg) → (∀ g : Nat, g ≤ aN t_knots → GD t_least t_beside t_knots g) → ((t_least x2.toNatClampNeg).toInt ≤ x1.toInt) → (14 - t_rowed.toInt < g_139) → Sat (k_139 x1 x2 t_rowed t_row t_least) (fun r => (0 ≤ (r.2.1).toInt ∧ (r.2.1).toInt ≤ 14) ∧ (∀ i, 0 ≤ ((r.2.2.1) i).toInt ∧ ((r.2.2.1) i).toInt ≤ 13) ∧ (RW r.2.1 r.2.2.1) ∧ True)) : ∀ (n : Nat) (x1 : Int32) (x2 : Int32) (x3 : Int32) (t_rowed : Int32) (t_row : Nat → Int32) (t_least : Nat → Int32), (0 ≤ x2.toInt ∧ x2.toInt ≤ 16383) → (0 ≤ x3.toInt ∧ x3.toInt ≤ 13) → (0 ≤ t_rowed.toInt ∧ t_rowed.toInt ≤ 13) → (∀ i, 0 ≤ (t_row i).toInt ∧ (t_row i).toInt ≤ 13) → (t_rowed.toInt < t_knots.toInt) → (x2 = nI (rmN t_row t_rowed.toNatClampNeg)) → (RW t_rowed t_row) → (∀ i : Nat, x2.toNatClampNeg.testBit i = true → i < t_knots.toNatClampNeg) → (∀ g : Nat, g ≤ aN t_knots → GD t_least t_beside t_knots g) → (∃ k : Nat, x3.toNatClampNeg ≤ k ∧ k < t_knots.toNatClampNeg ∧ x2.toNatClampNeg.testBit k = false ∧ (pcN (arN t_beside t_knots x2.toNatClampNeg k) : Int) ≤ x1.toInt ∧ (t_least (x2.toNatClampNeg ||| 2 ^ k)).toInt ≤ x1.toInt) → (14 - t_rowed.toInt ≤ g_139) → 13 - x3.toInt < (n : Int) → Sat (L_X9_least_152 t_knots t_beside k_139 n x1 x2 x3 t_rowed t_row t_least) (fun r => (0 ≤ (r.2.1).toInt ∧ (r.2.1).toInt ≤ 14) ∧ (∀ i, 0 ≤ ((r.2.2.1) i).toInt ∧ ((r.2.2.1) i).toInt ≤ 13) ∧ (RW r.2.1 r.2.2.1) ∧ True) := by
  intro n
  induction n with
  | zero => intro x1 x2 x3 t_rowed t_row t_least h_x2 h_x3 h_t_rowed h_t_row hi0 hi1 hi2 hi3 hi4 hi5 hg_139 hM; exfalso; omega
  | succ n ih =>
    intro x1 x2 x3 t_rowed t_row t_least h_x2 h_x3 h_t_rowed h_t_row hi0 hi1 hi2 hi3 hi4 hi5 hg_139 hM
    rw [L_X9_least_152]
    have l1 : (1 : Int32).toInt = 1 := rfl
    have n3 := tn (x := x3) h_x3.1
    have nk := tn (x := t_knots) h_t_knots.1
    have nr := tn (x := t_rowed) h_t_rowed.1
    have n2 := tn (x := x2) h_x2.1
    have hm := rmN_lt h_t_row t_rowed.toNatClampNeg
    have k3 : (x3 + (1 : Int32)).toInt = x3.toInt + (1 : Int32).toInt := ti_add (by omega) (by omega)
    have n4 := tn (x := x3 + 1) (by omega)
    obtain ⟨k, q1, q2, q3, q4, q5⟩ := hi5
    have nxt : k ≠ x3.toNatClampNeg → ∀ y : Int32, y = x3 + 1 → Sat (L_X9_least_152 t_knots t_beside k_139 n x1 x2 y t_rowed t_row t_least) (fun r => (0 ≤ (r.2.1).toInt ∧ (r.2.1).toInt ≤ 14) ∧ (∀ i, 0 ≤ ((r.2.2.1) i).toInt ∧ ((r.2.2.1) i).toInt ≤ 13) ∧ (RW r.2.1 r.2.2.1) ∧ True) := by
      intro hne y hy
      have ty := congrArg Int32.toInt hy
      have ny := tn (x := y) (by omega)
      exact ih x1 x2 y t_rowed t_row t_least h_x2 (by omega) h_t_rowed h_t_row hi0 hi1 hi2 hi3 hi4 ⟨k, by omega, q2, q3, q4, q5⟩ hg_139 (by omega)
    refine sat_ite (fun hc => ?_) (fun hc => ?_)
    · rw [has1_tb h_x2 h_x3] at hc
      exact sat_bnd fun y hy => nxt (fun e => by rw [e, hc] at q3; cases q3) y hy
    · rw [has1_tb h_x2 h_x3] at hc
      have hc : x2.toNatClampNeg.testBit x3.toNatClampNeg = false := by simpa using hc
      refine sat_cal_eq (s_X9_around x2 x3 t_knots t_beside h_x2 h_x3 h_t_knots h_t_beside) fun u9 e9 hu9 => ?_
      refine sat_cal (s_X9_bits u9 hu9.1) fun u10 hu10 => ?_
      have hp := bits_ti hu10.1.1
      rw [← arN_eq h_x2 h_x3 e9] at hp
      refine sat_ite (fun hd => ?_) (fun hd => ?_)
      · have hd := plt hd
        exact sat_bnd fun y hy => nxt (fun e => by subst e; omega) y hy
      · have ho := or_n h_x2 h_x3
        have hr := or_rg h_x2 (shl_rg h_x3)
        refine sat_ldA (okI_of (by omega)) fun v12 e12 => ?_
        rw [ho] at e12
        have te12 := congrArg Int32.toInt e12
        refine sat_ite (fun he => ?_) (fun he => ?_)
        · have he := ple he
          have ex2 : x2.toNatClampNeg = rmN t_row t_rowed.toNatClampNeg := by rw [hi1, nI_clamp (by omega)]
          have hb := hc
          rw [ex2] at hb
          obtain ⟨w1, w2, w3⟩ := RW_app (r := t_rowed) (x := x3) (f := t_row) (by omega) h_x3 hi2 hb
          have kr : (t_rowed + (1 : Int32)).toInt = t_rowed.toInt + (1 : Int32).toInt := ti_add (by omega) (by omega)
          refine sat_stI (okI_of (by omega)) fun t_row_13 e13 => ?_
          refine sat_bnd fun t_rowed_14 e14 => ?_
          have te14 := congrArg Int32.toInt e14
          refine sat_bnd fun x2_15 e15 => ?_
          have h15 : 0 ≤ x2_15.toInt ∧ x2_15.toInt ≤ 16383 := by rw [e15]; exact hr
          have eo : x2_15.toNatClampNeg = x2.toNatClampNeg ||| 2 ^ x3.toNatClampNeg := by rw [e15]; exact ho
          obtain ⟨j, b1, b2, b3, b4⟩ := mk_of h_x3
          refine hk_139 x1 x2_15 t_rowed_14 t_row_13 t_least h15 (by omega) (ra_upd e13 h_t_row h_x3) (by omega) ?_ (by rw [e14, e13]; exact w2) ?_ hi4 (by rw [eo]; omega) (by omega)
          · rw [e15, e14, w3, e13, rmN_app, hi1, b3, nx_bit1 j (by omega), nx_or, nI_clamp b2]
          · intro i hi
            rw [eo, tb_or2] at hi
            cases hx : x2.toNatClampNeg.testBit i
            · rw [hx, Bool.false_or] at hi
              have := of_decide_eq_true hi
              omega
            · exact hi3 i hx
        · have he := nle he
          exact sat_bnd fun y hy => nxt (fun e => by subst e; omega) y hy
theorem l_X9_least_139 (t_knots : Int32) (t_beside : Nat → Int32) (h_t_knots : 0 ≤ t_knots.toInt ∧ t_knots.toInt ≤ 14) (h_t_beside : ∀ i, 0 ≤ (t_beside i).toInt ∧ (t_beside i).toInt ≤ 16383) : ∀ (n : Nat) (x1 : Int32) (x2 : Int32) (t_rowed : Int32) (t_row : Nat → Int32) (t_least : Nat → Int32), (0 ≤ x2.toInt ∧ x2.toInt ≤ 16383) → (0 ≤ t_rowed.toInt ∧ t_rowed.toInt ≤ 14) → (∀ i, 0 ≤ (t_row i).toInt ∧ (t_row i).toInt ≤ 13) → (t_rowed.toInt ≤ t_knots.toInt) → (x2 = nI (rmN t_row t_rowed.toNatClampNeg)) → (RW t_rowed t_row) → (∀ i : Nat, x2.toNatClampNeg.testBit i = true → i < t_knots.toNatClampNeg) → (∀ g : Nat, g ≤ aN t_knots → GD t_least t_beside t_knots g) → ((t_least x2.toNatClampNeg).toInt ≤ x1.toInt) → 14 - t_rowed.toInt < (n : Int) → Sat (L_X9_least_139 t_knots t_beside n x1 x2 t_rowed t_row t_least) (fun r => (0 ≤ (r.2.1).toInt ∧ (r.2.1).toInt ≤ 14) ∧ (∀ i, 0 ≤ ((r.2.2.1) i).toInt ∧ ((r.2.2.1) i).toInt ≤ 13) ∧ (RW r.2.1 r.2.2.1) ∧ True) := by
  intro n
  induction n with
  | zero => intro x1 x2 t_rowed t_row t_least h_x2 h_t_rowed h_t_row hi0 hi1 hi2 hi3 hi4 hi5 hM; exfalso; omega
  | succ n ih =>
    intro x1 x2 t_rowed t_row t_least h_x2 h_t_rowed h_t_row hi0 hi1 hi2 hi3 hi4 hi5 hM
    rw [L_X9_least_139]
    have l0 : (0 : Int32).toInt = 0 := rfl
    refine sat_ite (fun hc => ?_) (fun hc => ?_)
    · exact sat_some ⟨h_t_rowed, h_t_row, hi2, trivial⟩
    · have hc := nle hc
      refine sat_bnd fun x3_7 e3 => ?_
      have te3 := congrArg Int32.toInt e3
      have n3 := tn (x := x3_7) (by omega)
      have nr := tn (x := t_rowed) h_t_rowed.1
      have nk := tn (x := t_knots) h_t_knots.1
      have hNN := NN_i
      have hm := rmN_lt h_t_row t_rowed.toNatClampNeg
      have ex2 : x2.toNatClampNeg = rmN t_row t_rowed.toNatClampNeg := by rw [hi1, nI_clamp (by omega)]
      have hle := le_aN hi3
      have hlt : x2.toNatClampNeg < aN t_knots := by
        rcases Nat.lt_or_ge x2.toNatClampNeg (aN t_knots) with z | z
        · exact z
        · exfalso
          have e : x2.toNatClampNeg = aN t_knots := by omega
          have q1 : t_knots.toNatClampNeg ≤ pcN x2.toNatClampNeg := pcU_full (by omega) (fun i hi => by rw [e]; unfold aN; rw [tb_all]; exact decide_eq_true hi)
          have q2 : pcN (rmN t_row t_rowed.toNatClampNeg) = t_rowed.toNatClampNeg := hi2
          rw [ex2] at q1
          omega
      obtain ⟨k, q1, q2, q3, q4⟩ := (hi4 _ hle).2 hlt
      exact l_X9_least_152 t_knots t_beside (fun y0 y1 y2 y3 y4 => L_X9_least_139 t_knots t_beside n y0 y1 y2 y3 y4) (n : Int) h_t_knots h_t_beside (fun y0 y1 y2 y3 y4 z0 z1 z2 z3 z4 z5 z6 z7 z8 zm => ih y0 y1 y2 y3 y4 z0 z1 z2 z3 z4 z5 z6 z7 z8 zm) NN x1 x2 x3_7 t_rowed t_row t_least h_x2 (by omega) (by omega) h_t_row (by omega) hi1 hi2 hi3 hi4 ⟨k, by omega, q1, q2, by omega, by omega⟩ (by omega) (by omega)
theorem j_X9_least_86 (t_knots : Int32) (t_beside : Nat → Int32) (k_31 : Int32 → Int32 → Int32 → (Nat → Int32) → (Nat → Int32) → Option (Int32 × Int32 × (Nat → Int32) × (Nat → Int32))) (g_31 : Int) (g_5 : Int) (h_t_knots : 0 ≤ t_knots.toInt ∧ t_knots.toInt ≤ 14) (h_t_beside : ∀ i, 0 ≤ (t_beside i).toInt ∧ (t_beside i).toInt ≤ 16383) (hk_31 : ∀ (x1 : Int32) (x2 : Int32) (t_rowed : Int32) (t_row : Nat → Int32) (t_least : Nat → Int32), (0 ≤ x1.toInt ∧ x1.toInt ≤ 16383) → (0 ≤ x2.toInt ∧ x2.toInt ≤ 14) → (0 ≤ t_rowed.toInt ∧ t_rowed.toInt ≤ 14) → (∀ i, 0 ≤ (t_row i).toInt ∧ (t_row i).toInt ≤ 13) → (x1.toInt ≤ (aN t_knots : Int)) → (∀ g : Nat, x1.toInt < (g : Int) → g ≤ aN t_knots → GD t_least t_beside t_knots g) → (TWL t_least t_beside t_knots x1.toNatClampNeg) → ((t_least x1.toNatClampNeg).toInt ≤ 14 ∨ (x1.toNatClampNeg ≠ aN t_knots ∧ ∀ i : Nat, (i : Int) < x2.toInt → x1.toNatClampNeg.testBit i = true)) → (x1.toInt + 1 ≤ g_5) → (14 - x2.toInt < g_31) → Sat (k_31 x1 x2 t_rowed t_row t_least) (fun r => (0 ≤ (r.2.1).toInt ∧ (r.2.1).toInt ≤ 14) ∧ (∀ i, 0 ≤ ((r.2.2.1) i).toInt ∧ ((r.2.2.1) i).toInt ≤ 13) ∧ (RW r.2.1 r.2.2.1) ∧ True)) : ∀ (x1 : Int32) (x2 : Int32) (s0 : Int32) (t_rowed : Int32) (t_row : Nat → Int32) (t_least : Nat → Int32), (0 ≤ x1.toInt ∧ x1.toInt ≤ 16383) → (0 ≤ x2.toInt ∧ x2.toInt ≤ 13) → (0 ≤ t_rowed.toInt ∧ t_rowed.toInt ≤ 14) → (∀ i, 0 ≤ (t_row i).toInt ∧ (t_row i).toInt ≤ 13) → (x1.toInt ≤ (aN t_knots : Int)) → (∀ g : Nat, x1.toInt < (g : Int) → g ≤ aN t_knots → GD t_least t_beside t_knots g) → (TWL t_least t_beside t_knots x1.toNatClampNeg) → (x2.toInt < t_knots.toInt ∧ s0.toInt ≤ 14) → (x1.toNatClampNeg.testBit x2.toNatClampNeg = false ∧ (pcN (arN t_beside t_knots x1.toNatClampNeg x2.toNatClampNeg) : Int) ≤ s0.toInt ∧ (t_least (x1.toNatClampNeg ||| 2 ^ x2.toNatClampNeg)).toInt ≤ s0.toInt) → (14 - x2.toInt ≤ g_31) → (x1.toInt + 1 ≤ g_5) → Sat (J_X9_least_86 t_knots t_beside k_31 x1 x2 s0 t_rowed t_row t_least) (fun r => (0 ≤ (r.2.1).toInt ∧ (r.2.1).toInt ≤ 14) ∧ (∀ i, 0 ≤ ((r.2.2.1) i).toInt ∧ ((r.2.2.1) i).toInt ≤ 13) ∧ (RW r.2.1 r.2.2.1) ∧ True) := by
  intro x1 x2 s0 t_rowed t_row t_least h_x1 h_x2 h_t_rowed h_t_row hi0 hi1 hi2 hi3 hi4 hg_31 hg_5
  unfold J_X9_least_86
  have l1 : (1 : Int32).toInt = 1 := rfl
  have n1 := tn (x := x1) h_x1.1
  have nk := tn (x := t_knots) h_t_knots.1
  have n2 := tn (x := x2) h_x2.1
  obtain ⟨c1, c2, c3⟩ := hi4
  have hgt := or_gt c1
  have k2 : (x2 + (1 : Int32)).toInt = x2.toInt + (1 : Int32).toInt := ti_add (by omega) (by omega)
  refine sat_bnd fun x3_26 e3 => ?_
  have te3 := congrArg Int32.toInt e3
  refine sat_ldA (okI_of (by omega)) fun v27 e27 => ?_
  have te27 := congrArg Int32.toInt e27
  refine sat_ite (fun hc => ?_) (fun hc => ?_)
  · have hc := ple hc
    refine sat_ldA (okI_of (by omega)) fun v28 e28 => ?_
    have te28 := congrArg Int32.toInt e28
    refine sat_stI (okI_of (by omega)) fun T' eT => ?_
    refine sat_bnd fun x2_30 e30 => ?_
    have te30 := congrArg Int32.toInt e30
    have s1 : T' x1.toNatClampNeg = v28 := by rw [eT]; exact pk_us
    have s2 : ∀ k, x1.toNatClampNeg.testBit k = false → T' (x1.toNatClampNeg ||| 2 ^ k) = t_least (x1.toNatClampNeg ||| 2 ^ k) := by
      intro k hk
      have := or_gt hk
      rw [eT]; exact pk_un (by omega)
    refine hk_31 x1 x2_30 t_rowed t_row T' h_x1 (by omega) h_t_rowed h_t_row hi0 (fun g g1 g2 => by rw [eT]; exact GD_upd (by omega) (hi1 g g1 g2)) ⟨by rw [s1]; omega, ?_⟩ (Or.inl (by rw [s1]; omega)) hg_5 (by omega)
    rcases hi2.2 with z | z | ⟨k, z1, z2, z3, z4⟩
    · exfalso; omega
    · exact Or.inr (Or.inl z)
    · exact Or.inr (Or.inr ⟨k, z1, z2, by rw [s1]; omega, by rw [s2 k z2, s1]; omega⟩)
  · have hc := nle hc
    refine sat_stI (okI_of (by omega)) fun T' eT => ?_
    refine sat_bnd fun x2_32 e32 => ?_
    have te32 := congrArg Int32.toInt e32
    have s1 : T' x1.toNatClampNeg = x3_26 := by rw [eT]; exact pk_us
    have s2 : T' (x1.toNatClampNeg ||| 2 ^ x2.toNatClampNeg) = t_least (x1.toNatClampNeg ||| 2 ^ x2.toNatClampNeg) := by
      rw [eT]; exact pk_un (by omega)
    exact hk_31 x1 x2_32 t_rowed t_row T' h_x1 (by omega) h_t_rowed h_t_row hi0 (fun g g1 g2 => by rw [eT]; exact GD_upd (by omega) (hi1 g g1 g2)) ⟨by rw [s1]; omega, Or.inr (Or.inr ⟨x2.toNatClampNeg, by omega, c1, by rw [s1]; omega, by rw [s2, s1]; omega⟩)⟩ (Or.inl (by rw [s1]; omega)) hg_5 (by omega)
theorem l_X9_least_31 (t_knots : Int32) (t_beside : Nat → Int32) (k_5 : Int32 → Int32 → (Nat → Int32) → (Nat → Int32) → Option (Int32 × Int32 × (Nat → Int32) × (Nat → Int32))) (g_5 : Int) (h_t_knots : 0 ≤ t_knots.toInt ∧ t_knots.toInt ≤ 14) (h_t_beside : ∀ i, 0 ≤ (t_beside i).toInt ∧ (t_beside i).toInt ≤ 16383) (hk_5 : ∀ (x1 : Int32) (t_rowed : Int32) (t_row : Nat → Int32) (t_least : Nat → Int32), (-1 ≤ x1.toInt ∧ x1.toInt ≤ 16383) → (0 ≤ t_rowed.toInt ∧ t_rowed.toInt ≤ 14) → (∀ i, 0 ≤ (t_row i).toInt ∧ (t_row i).toInt ≤ 13) → (x1.toInt ≤ (aN t_knots : Int)) → (∀ g : Nat, x1.toInt < (g : Int) → g ≤ aN t_knots → GD t_least t_beside t_knots g) → (x1.toInt + 1 < g_5) → Sat (k_5 x1 t_rowed t_row t_least) (fun r => (0 ≤ (r.2.1).toInt ∧ (r.2.1).toInt ≤ 14) ∧ (∀ i, 0 ≤ ((r.2.2.1) i).toInt ∧ ((r.2.2.1) i).toInt ≤ 13) ∧ (RW r.2.1 r.2.2.1) ∧ True)) : ∀ (n : Nat) (x1 : Int32) (x2 : Int32) (t_rowed : Int32) (t_row : Nat → Int32) (t_least : Nat → Int32), (0 ≤ x1.toInt ∧ x1.toInt ≤ 16383) → (0 ≤ x2.toInt ∧ x2.toInt ≤ 14) → (0 ≤ t_rowed.toInt ∧ t_rowed.toInt ≤ 14) → (∀ i, 0 ≤ (t_row i).toInt ∧ (t_row i).toInt ≤ 13) → (x1.toInt ≤ (aN t_knots : Int)) → (∀ g : Nat, x1.toInt < (g : Int) → g ≤ aN t_knots → GD t_least t_beside t_knots g) → (TWL t_least t_beside t_knots x1.toNatClampNeg) → ((t_least x1.toNatClampNeg).toInt ≤ 14 ∨ (x1.toNatClampNeg ≠ aN t_knots ∧ ∀ i : Nat, (i : Int) < x2.toInt → x1.toNatClampNeg.testBit i = true)) → (x1.toInt + 1 ≤ g_5) → 14 - x2.toInt < (n : Int) → Sat (L_X9_least_31 t_knots t_beside k_5 n x1 x2 t_rowed t_row t_least) (fun r => (0 ≤ (r.2.1).toInt ∧ (r.2.1).toInt ≤ 14) ∧ (∀ i, 0 ≤ ((r.2.2.1) i).toInt ∧ ((r.2.2.1) i).toInt ≤ 13) ∧ (RW r.2.1 r.2.2.1) ∧ True) := by
  intro n
  induction n with
  | zero => intro x1 x2 t_rowed t_row t_least h_x1 h_x2 h_t_rowed h_t_row hi0 hi1 hi2 hi3 hg_5 hM; exfalso; omega
  | succ n ih =>
    intro x1 x2 t_rowed t_row t_least h_x1 h_x2 h_t_rowed h_t_row hi0 hi1 hi2 hi3 hg_5 hM
    rw [L_X9_least_31]
    have l1 : (1 : Int32).toInt = 1 := rfl
    have n1 := tn (x := x1) h_x1.1
    have nk := tn (x := t_knots) h_t_knots.1
    have n2 := tn (x := x2) h_x2.1
    refine sat_ite (fun hc => ?_) (fun hc => ?_)
    · have hc := ple hc
      have hG : GD t_least t_beside t_knots x1.toNatClampNeg := by
        have h14 : (t_least x1.toNatClampNeg).toInt ≤ 14 := by
          rcases hi3 with z | ⟨z1, z2⟩
          · exact z
          · exfalso
            obtain ⟨k, w1, w2⟩ := ne_aN (t_knots := t_knots) (g := x1.toNatClampNeg) (by omega)
            rw [z2 k (by omega)] at w2
            cases w2
        refine ⟨h14, fun hlt => ?_⟩
        rcases hi2.2 with z | z | z
        · exfalso; omega
        · exfalso; omega
        · exact z
      refine sat_bnd fun x1_20 e20 => ?_
      have te20 : x1_20.toInt = x1.toInt - 1 := by rw [e20]; exact ti_dec (by omega)
      clear e20
      refine hk_5 x1_20 t_rowed t_row t_least (by omega) h_t_rowed h_t_row (by omega) (fun g g1 g2 => ?_) (by omega)
      by_cases e : g = x1.toNatClampNeg
      · rw [e]; exact hG
      · exact hi1 g (by omega) g2
    · have hc := nle hc
      have k2 : (x2 + (1 : Int32)).toInt = x2.toInt + (1 : Int32).toInt := ti_add (by omega) (by omega)
      refine sat_ite (fun hd => ?_) (fun hd => ?_)
      · rw [has1_tb h_x1 (by omega)] at hd
        refine sat_bnd fun x2_33 e33 => ?_
        have te33 := congrArg Int32.toInt e33
        refine ih x1 x2_33 t_rowed t_row t_least h_x1 (by omega) h_t_rowed h_t_row hi0 hi1 hi2 ?_ hg_5 (by omega)
        rcases hi3 with z | ⟨z1, z2⟩
        · exact Or.inl z
        · refine Or.inr ⟨z1, fun i hi => ?_⟩
          by_cases e : i = x2.toNatClampNeg
          · rw [e]; exact hd
          · exact z2 i (by omega)
      · rw [has1_tb h_x1 (by omega)] at hd
        have hd : x1.toNatClampNeg.testBit x2.toNatClampNeg = false := by simpa using hd
        have hk : 0 ≤ x2.toInt ∧ x2.toInt ≤ 13 := by omega
        refine sat_cal_eq (s_X9_around x1 x2 t_knots t_beside h_x1 hk h_t_knots h_t_beside) fun u21 e21 hu21 => ?_
        refine sat_cal (s_X9_bits u21 hu21.1) fun u22 hu22 => ?_
        have hp := bits_ti hu22.1.1
        rw [← arN_eq h_x1 hk e21] at hp
        have hr := hu22.1.2
        refine sat_bnd fun x3_23 e23 => ?_
        have te23 := congrArg Int32.toInt e23
        have ho := or_n h_x1 hk
        have hor := or_rg h_x1 (shl_rg hk)
        refine sat_ldA (okI_of (by omega)) fun v24 e24 => ?_
        rw [ho] at e24
        refine sat_bnd fun x4_25 e25 => ?_
        have te25 := congrArg Int32.toInt (e25.trans e24)
        have hgt := or_gt hd
        have hne : x1.toNatClampNeg ||| 2 ^ x2.toNatClampNeg ≤ aN t_knots := by
          have hle1 : x1.toNatClampNeg ≤ aN t_knots := by omega
          apply Nat.le_of_lt_succ
          have hp2 : aN t_knots + 1 = 2 ^ t_knots.toNatClampNeg := by
            have hq : 0 < 2 ^ t_knots.toNatClampNeg := Nat.two_pow_pos _
            unfold aN; omega
          show x1.toNatClampNeg ||| 2 ^ x2.toNatClampNeg < aN t_knots + 1
          rw [hp2]
          exact Nat.or_lt_two_pow (by omega) (Nat.pow_lt_pow_right (by decide) (by omega))
        have hT := (hi1 _ (by omega) hne).1
        refine sat_ite (fun he => ?_) (fun he => ?_)
        · have he := ple he
          exact j_X9_least_86 t_knots t_beside (fun y0 y1 y2 y3 y4 => L_X9_least_31 t_knots t_beside k_5 n y0 y1 y2 y3 y4) (n : Int) g_5 h_t_knots h_t_beside (fun y0 y1 y2 y3 y4 z0 z1 z2 z3 z4 z5 z6 z7 z8 zm => ih y0 y1 y2 y3 y4 z0 z1 z2 z3 z4 z5 z6 z7 z8 zm) x1 x2 x3_23 t_rowed t_row t_least h_x1 hk h_t_rowed h_t_row hi0 hi1 hi2 (by omega) ⟨hd, by omega, by omega⟩ (by omega) hg_5
        · have he := nle he
          exact j_X9_least_86 t_knots t_beside (fun y0 y1 y2 y3 y4 => L_X9_least_31 t_knots t_beside k_5 n y0 y1 y2 y3 y4) (n : Int) g_5 h_t_knots h_t_beside (fun y0 y1 y2 y3 y4 z0 z1 z2 z3 z4 z5 z6 z7 z8 zm => ih y0 y1 y2 y3 y4 z0 z1 z2 z3 z4 z5 z6 z7 z8 zm) x1 x2 x4_25 t_rowed t_row t_least h_x1 hk h_t_rowed h_t_row hi0 hi1 hi2 (by omega) ⟨hd, by omega, by omega⟩ (by omega) hg_5
theorem l_X9_least_5 (t_knots : Int32) (t_beside : Nat → Int32) (h_t_knots : 0 ≤ t_knots.toInt ∧ t_knots.toInt ≤ 14) (h_t_beside : ∀ i, 0 ≤ (t_beside i).toInt ∧ (t_beside i).toInt ≤ 16383) : ∀ (n : Nat) (x1 : Int32) (t_rowed : Int32) (t_row : Nat → Int32) (t_least : Nat → Int32), (-1 ≤ x1.toInt ∧ x1.toInt ≤ 16383) → (0 ≤ t_rowed.toInt ∧ t_rowed.toInt ≤ 14) → (∀ i, 0 ≤ (t_row i).toInt ∧ (t_row i).toInt ≤ 13) → (x1.toInt ≤ (aN t_knots : Int)) → (∀ g : Nat, x1.toInt < (g : Int) → g ≤ aN t_knots → GD t_least t_beside t_knots g) → x1.toInt + 1 < (n : Int) → Sat (L_X9_least_5 t_knots t_beside n x1 t_rowed t_row t_least) (fun r => (0 ≤ (r.2.1).toInt ∧ (r.2.1).toInt ≤ 14) ∧ (∀ i, 0 ≤ ((r.2.2.1) i).toInt ∧ ((r.2.2.1) i).toInt ≤ 13) ∧ (RW r.2.1 r.2.2.1) ∧ True) := by
  intro n
  induction n with
  | zero => intro x1 t_rowed t_row t_least h_x1 h_t_rowed h_t_row hi0 hi1 hM; exfalso; omega
  | succ n ih =>
    intro x1 t_rowed t_row t_least h_x1 h_t_rowed h_t_row hi0 hi1 hM
    rw [L_X9_least_5]
    have l0 : (0 : Int32).toInt = 0 := rfl
    have lm : (-1 : Int32).toInt = -1 := rfl
    have l100 : (100 : Int32).toInt = 100 := rfl
    have hNN := NN_i
    refine sat_ite (fun hc => ?_) (fun hc => ?_)
    · have hc := plt hc
      refine sat_ldA (okI_of (by omega)) fun v3 e3 => ?_
      refine sat_bnd fun x1_4 e4 => ?_
      refine sat_bnd fun t_rowed_5 e5 => ?_
      refine sat_bnd fun x2_6 e6 => ?_
      have te4 := congrArg Int32.toInt (e4.trans e3)
      have te5 := congrArg Int32.toInt e5
      have te6 := congrArg Int32.toInt e6
      have ez : x2_6.toNatClampNeg = 0 := by rw [e6]; rfl
      refine l_X9_least_139 t_knots t_beside h_t_knots h_t_beside NN x1_4 x2_6 t_rowed_5 t_row t_least (by omega) (by omega) h_t_row (by omega) (by rw [e5, e6]; rfl) (by rw [e5]; exact RW_0 t_row) (fun i hi => ?_) (fun g hg => hi1 g (by omega) hg) ?_ (by omega)
      · rw [ez, Nat.zero_testBit] at hi; cases hi
      · rw [ez, show (0 : Nat) = (0 : Int32).toNatClampNeg from rfl]; omega
    · have hc := nlt hc
      have n1 := tn (x := x1) (by omega)
      rw [all_eq h_t_knots]
      have hlt := aN_lt h_t_knots
      show Sat (if x1 = nI (aN t_knots) then _ else _) _
      refine sat_ite (fun hd => ?_) (fun hd => ?_)
      · refine sat_stI (okI_of (by omega)) fun T' eT => ?_
        refine sat_bnd fun x2_35 e35 => ?_
        have te35 := congrArg Int32.toInt e35
        have s1 : T' x1.toNatClampNeg = -1 := by rw [eT]; exact pk_us
        have ea : x1.toNatClampNeg = aN t_knots := by rw [hd, nI_clamp (by omega)]
        exact l_X9_least_31 t_knots t_beside (fun y0 y1 y2 y3 => L_X9_least_5 t_knots t_beside n y0 y1 y2 y3) (n : Int) h_t_knots h_t_beside (fun y0 y1 y2 y3 z0 z1 z2 z3 z4 zm => ih y0 y1 y2 y3 z0 z1 z2 z3 z4 zm) NN x1 x2_35 t_rowed t_row T' (by omega) (by omega) h_t_rowed h_t_row hi0 (fun g g1 g2 => by rw [eT]; exact GD_upd (by omega) (hi1 g g1 g2)) ⟨by rw [s1]; omega, Or.inr (Or.inl ea)⟩ (Or.inl (by rw [s1]; omega)) (by omega) (by omega)
      · have hd := neq hd
        rw [nI_toInt (by omega)] at hd
        refine sat_stI (okI_of (by omega)) fun T' eT => ?_
        refine sat_bnd fun x2_19 e19 => ?_
        have te19 := congrArg Int32.toInt e19
        have s1 : T' x1.toNatClampNeg = 100 := by rw [eT]; exact pk_us
        exact l_X9_least_31 t_knots t_beside (fun y0 y1 y2 y3 => L_X9_least_5 t_knots t_beside n y0 y1 y2 y3) (n : Int) h_t_knots h_t_beside (fun y0 y1 y2 y3 z0 z1 z2 z3 z4 zm => ih y0 y1 y2 y3 z0 z1 z2 z3 z4 zm) NN x1 x2_19 t_rowed t_row T' (by omega) (by omega) h_t_rowed h_t_row hi0 (fun g g1 g2 => by rw [eT]; exact GD_upd (by omega) (hi1 g g1 g2)) ⟨by rw [s1]; omega, Or.inl (by rw [s1]; omega)⟩ (Or.inr ⟨by omega, fun i hi => by exfalso; omega⟩) (by omega) (by omega)
theorem s_X9_least (t_knots : Int32) (t_rowed : Int32) (t_beside : Nat → Int32) (t_row : Nat → Int32) (t_least : Nat → Int32) (h_t_knots : 0 ≤ t_knots.toInt ∧ t_knots.toInt ≤ 14) (h_t_rowed : 0 ≤ t_rowed.toInt ∧ t_rowed.toInt ≤ 14) (h_t_beside : ∀ i, 0 ≤ (t_beside i).toInt ∧ (t_beside i).toInt ≤ 16383) (h_t_row : ∀ i, 0 ≤ (t_row i).toInt ∧ (t_row i).toInt ≤ 13) : Sat (f_X9_least t_knots t_rowed t_beside t_row t_least) (fun r => (0 ≤ (r.2.1).toInt ∧ (r.2.1).toInt ≤ 14) ∧ (∀ i, 0 ≤ ((r.2.2.1) i).toInt ∧ ((r.2.2.1) i).toInt ≤ 13) ∧ (RW r.2.1 r.2.2.1) ∧ True) := by
  unfold f_X9_least
  have hlt := aN_lt h_t_knots
  rw [all_eq h_t_knots]
  refine sat_cal (Q := fun u => u = nI (aN t_knots)) ⟨_, rfl, rfl⟩ fun u1 hu1 => ?_
  refine sat_bnd fun x1_2 e1 => ?_
  have te1 := congrArg Int32.toInt (e1.trans hu1)
  rw [nI_toInt (by omega)] at te1
  have hNN := NN_i
  exact l_X9_least_5 t_knots t_beside h_t_knots h_t_beside NN x1_2 t_rowed t_row t_least (by omega) h_t_rowed h_t_row (by omega) (fun g g1 g2 => by exfalso; omega) (by omega)
theorem j_X9_below_102 (t_knots : Int32) (t_beside : Nat → Int32) (k_7 : Int32 → Int32 → Option (Int32)) (g_7 : Int) (h_t_knots : 0 ≤ t_knots.toInt ∧ t_knots.toInt ≤ 14) (h_t_beside : ∀ i, 0 ≤ (t_beside i).toInt ∧ (t_beside i).toInt ≤ 16383) (hk_7 : ∀ (x1 : Int32) (x2 : Int32), (0 ≤ x1.toInt ∧ x1.toInt ≤ 16383) → (∀ i : Nat, x1.toNatClampNeg.testBit i = true → (i : Int) < t_knots.toInt) → (x1.toInt < g_7) → Sat (k_7 x1 x2) (fun r => True)) : ∀ (x1 : Int32) (x3 : Int32) (s0 : Int32), (0 ≤ x1.toInt ∧ x1.toInt ≤ 16383) → (0 ≤ x3.toInt ∧ x3.toInt ≤ 13) → (∀ i : Nat, x1.toNatClampNeg.testBit i = true → (i : Int) < t_knots.toInt) → (x1.toNatClampNeg.testBit x3.toNatClampNeg = true) → (x1.toInt ≤ g_7) → Sat (J_X9_below_102 t_knots t_beside k_7 x1 x3 s0) (fun r => True) := by
  intro x1 x3 s0 h_x1 h_x3 hi0 hi1 hg_7
  unfold J_X9_below_102
  refine sat_bnd fun x2_9 _ => ?_
  refine sat_bnd fun x1_10 e => ?_
  have hs := shl_rg h_x3
  have ht : ((1 : Int32) <<< (x3 &&& 31)).toNatClampNeg.testBit x3.toNatClampNeg = true := by rw [shl_tn h_x3, Nat.testBit_two_pow_self]
  have hc := clr h_x1 hs hi1 ht
  rw [← e] at hc
  refine hk_7 x1_10 x2_9 (by rw [e]; exact anl_rg h_x1) (fun i hi => hi0 i ?_) (by omega)
  rw [e] at hi
  exact clr_sub h_x1 hs hi
theorem l_X9_below_16 (t_knots : Int32) (t_beside : Nat → Int32) (k_7 : Int32 → Int32 → Option (Int32)) (g_7 : Int) (h_t_knots : 0 ≤ t_knots.toInt ∧ t_knots.toInt ≤ 14) (h_t_beside : ∀ i, 0 ≤ (t_beside i).toInt ∧ (t_beside i).toInt ≤ 16383) (hk_7 : ∀ (x1 : Int32) (x2 : Int32), (0 ≤ x1.toInt ∧ x1.toInt ≤ 16383) → (∀ i : Nat, x1.toNatClampNeg.testBit i = true → (i : Int) < t_knots.toInt) → (x1.toInt < g_7) → Sat (k_7 x1 x2) (fun r => True)) : ∀ (n : Nat) (x1 : Int32) (x2 : Int32) (x3 : Int32) (x4 : Int32), (0 ≤ x1.toInt ∧ x1.toInt ≤ 16383) → (-1 ≤ x3.toInt ∧ x3.toInt ≤ 13) → (0 ≤ x4.toInt ∧ x4.toInt ≤ 14) → (x1.toInt ≠ 0) → (∀ i : Nat, x1.toNatClampNeg.testBit i = true → (i : Int) < t_knots.toInt) → ((x3.toInt = -1 ∧ ∀ i : Nat, (i : Int) < x4.toInt → x1.toNatClampNeg.testBit i = false) ∨ (0 ≤ x3.toInt ∧ x1.toNatClampNeg.testBit x3.toNatClampNeg = true)) → (x1.toInt ≤ g_7) → 14 - x4.toInt < (n : Int) → Sat (L_X9_below_16 t_knots t_beside k_7 n x1 x2 x3 x4) (fun r => True) := by
  intro n
  induction n with
  | zero => intro x1 x2 x3 x4 h_x1 h_x3 h_x4 hi0 hi1 hi2 hg_7 hM; exfalso; omega
  | succ n ih =>
    intro x1 x2 x3 x4 h_x1 h_x3 h_x4 hi0 hi1 hi2 hg_7 hM
    rw [L_X9_below_16]
    have l1 : (1 : Int32).toInt = 1 := rfl
    have l0 : (0 : Int32).toInt = 0 := rfl
    refine sat_ite (fun hc => ?_) (fun hc => ?_)
    · have hc := ple hc
      have hf : 0 ≤ x3.toInt ∧ x1.toNatClampNeg.testBit x3.toNatClampNeg = true := by
        rcases hi2 with ⟨h1, h2⟩ | h
        · exfalso
          have n1 := tn (x := x1) h_x1.1
          obtain ⟨i, hb⟩ := ex_bit (t := x1.toNatClampNeg) (by omega)
          have q1 := hi1 i hb
          have q2 := h2 i (by omega)
          rw [hb] at q2; cases q2
        · exact h
      refine sat_ldA (okI_of (by omega)) fun v6 e6 => ?_
      refine sat_cal (s_X9_bits (v6 &&& x1) (anr_rg h_x1)) fun u7 hu7 => ?_
      refine sat_bnd fun x4_8 _ => ?_
      refine sat_ite (fun _ => ?_) (fun _ => ?_)
      · exact j_X9_below_102 t_knots t_beside k_7 g_7 h_t_knots h_t_beside hk_7 x1 x3 x2 h_x1 (by omega) hi1 hf.2 hg_7
      · exact j_X9_below_102 t_knots t_beside k_7 g_7 h_t_knots h_t_beside hk_7 x1 x3 x4_8 h_x1 (by omega) hi1 hf.2 hg_7
    · have hc := nle hc
      have n4 := tn (x := x4) h_x4.1
      have k4 : (x4 + (1 : Int32)).toInt = x4.toInt + (1 : Int32).toInt := ti_add (by omega) (by omega)
      refine sat_ite (fun hd => ?_) (fun hd => ?_)
      · rw [has1_tb h_x1 (by omega)] at hd
        refine sat_ite (fun he => ?_) (fun he => ?_)
        · refine sat_bnd fun x3_12 e3 => ?_
          refine sat_bnd fun x4_13 e4 => ?_
          have te3 := congrArg Int32.toInt e3
          have te4 := congrArg Int32.toInt e4
          exact ih x1 x2 x3_12 x4_13 h_x1 (by omega) (by omega) hi0 hi1 (Or.inr ⟨by omega, by rw [e3]; exact hd⟩) hg_7 (by omega)
        · have he := nlt he
          refine sat_ldA (okI_of (by omega)) fun v14 e14 => ?_
          refine sat_cal (s_X9_bits (v14 &&& x1) (anr_rg h_x1)) fun u15 hu15 => ?_
          refine sat_ldA (okI_of (by omega)) fun v16 e16 => ?_
          refine sat_cal (s_X9_bits (v16 &&& x1) (anr_rg h_x1)) fun u17 hu17 => ?_
          refine sat_ite (fun _ => ?_) (fun _ => ?_)
          · refine sat_bnd fun x4_18 e4 => ?_
            have te4 := congrArg Int32.toInt e4
            exact ih x1 x2 x3 x4_18 h_x1 h_x3 (by omega) hi0 hi1 (Or.inr (hi2.resolve_left (fun z => by omega))) hg_7 (by omega)
          · refine sat_bnd fun x3_19 e3 => ?_
            refine sat_bnd fun x4_20 e4 => ?_
            have te3 := congrArg Int32.toInt e3
            have te4 := congrArg Int32.toInt e4
            exact ih x1 x2 x3_19 x4_20 h_x1 (by omega) (by omega) hi0 hi1 (Or.inr ⟨by omega, by rw [e3]; exact hd⟩) hg_7 (by omega)
      · rw [has1_tb h_x1 (by omega)] at hd
        refine sat_bnd fun x4_11 e4 => ?_
        have te4 := congrArg Int32.toInt e4
        refine ih x1 x2 x3 x4_11 h_x1 h_x3 (by omega) hi0 hi1 ?_ hg_7 (by omega)
        rcases hi2 with ⟨h1, h2⟩ | h
        · refine Or.inl ⟨h1, fun i hi => ?_⟩
          by_cases e : i = x4.toNatClampNeg
          · subst e; simpa using hd
          · exact h2 i (by omega)
        · exact Or.inr h
theorem l_X9_below_7 (t_knots : Int32) (t_beside : Nat → Int32) (h_t_knots : 0 ≤ t_knots.toInt ∧ t_knots.toInt ≤ 14) (h_t_beside : ∀ i, 0 ≤ (t_beside i).toInt ∧ (t_beside i).toInt ≤ 16383) : ∀ (n : Nat) (x1 : Int32) (x2 : Int32), (0 ≤ x1.toInt ∧ x1.toInt ≤ 16383) → (∀ i : Nat, x1.toNatClampNeg.testBit i = true → (i : Int) < t_knots.toInt) → x1.toInt < (n : Int) → Sat (L_X9_below_7 t_knots t_beside n x1 x2) (fun r => True) := by
  intro n
  induction n with
  | zero => intro x1 x2 h_x1 hi0 hM; exfalso; omega
  | succ n ih =>
    intro x1 x2 h_x1 hi0 hM
    rw [L_X9_below_7]
    have l0 : (0 : Int32).toInt = 0 := rfl
    have lm : (-1 : Int32).toInt = -1 := rfl
    refine sat_ite (fun hc => ?_) (fun hc => ?_)
    · exact sat_some trivial
    · have hc := neq hc
      refine sat_bnd fun x3_4 e3 => ?_
      refine sat_bnd fun x4_5 e4 => ?_
      have te3 := congrArg Int32.toInt e3
      have te4 := congrArg Int32.toInt e4
      have hNN := NN_i
      exact l_X9_below_16 t_knots t_beside (fun y0 y1 => L_X9_below_7 t_knots t_beside n y0 y1) (n : Int) h_t_knots h_t_beside (fun y0 y1 z0 z1 zm => ih y0 y1 z0 z1 zm) NN x1 x2 x3_4 x4_5 h_x1 (by omega) (by omega) (by omega) hi0 (Or.inl ⟨by omega, fun i hi => by exfalso; omega⟩) (by omega) (by omega)
theorem s_X9_below (t_knots : Int32) (t_beside : Nat → Int32) (h_t_knots : 0 ≤ t_knots.toInt ∧ t_knots.toInt ≤ 14) (h_t_beside : ∀ i, 0 ≤ (t_beside i).toInt ∧ (t_beside i).toInt ≤ 16383) : Sat (f_X9_below t_knots t_beside) (fun r => True) := by
  unfold f_X9_below
  have lm : (-1 : Int32).toInt = -1 := rfl
  refine sat_cal (all_n t_knots h_t_knots) fun u1 hu1 => ?_
  refine sat_bnd fun x1_2 e1 => ?_
  refine sat_bnd fun x2_3 e2 => ?_
  have hNN := NN_i
  have te1 := congrArg Int32.toInt e1
  have hr := hu1.1
  exact l_X9_below_7 t_knots t_beside h_t_knots h_t_beside NN x1_2 x2_3 (by omega) (fun i hi => hu1.2 i (by rw [← e1]; exact hi)) (by omega)
theorem s_X9_clear (t_bags : Int32) (h_t_bags : 0 ≤ t_bags.toInt ∧ t_bags.toInt ≤ 14) : Sat (f_X9_clear t_bags) (fun r => (0 ≤ (r.2).toInt ∧ (r.2).toInt ≤ 14) ∧ True) := by
  unfold f_X9_clear
  have l0 : (0 : Int32).toInt = 0 := rfl
  refine sat_bnd fun x1_1 e1 => ?_
  have te1 := congrArg Int32.toInt e1
  refine sat_bnd fun t_bags_2 e2 => ?_
  have te2 := congrArg Int32.toInt e2
  exact sat_some ⟨(by (try dsimp only); omega), trivial⟩
theorem j_X9_bag_52  : ∀ (a1 : Int32) (t_knots : Int32) (t_bags : Int32) (t_bag : Nat → Int32) (t_up : Nat → Int32), (0 ≤ a1.toInt ∧ a1.toInt ≤ 16383) → (0 ≤ t_knots.toInt ∧ t_knots.toInt ≤ 14) → (0 ≤ t_bags.toInt ∧ t_bags.toInt ≤ 13) → (∀ i, 0 ≤ (t_bag i).toInt ∧ (t_bag i).toInt ≤ 16383) → (∀ i, -1 ≤ (t_up i).toInt ∧ (t_up i).toInt ≤ 13) → Sat (J_X9_bag_52 a1 t_knots t_bags t_bag t_up) (fun r => (0 ≤ (r.2.1).toInt ∧ (r.2.1).toInt ≤ 14) ∧ (∀ i, 0 ≤ ((r.2.2.1) i).toInt ∧ ((r.2.2.1) i).toInt ≤ 16383) ∧ (∀ i, -1 ≤ ((r.2.2.2) i).toInt ∧ ((r.2.2.2) i).toInt ≤ 13) ∧ True) := by
  intro a1 t_knots t_bags t_bag t_up h_a1 h_t_knots h_t_bags h_t_bag h_t_up
  unfold J_X9_bag_52
  have lm1 : (-1 : Int32).toInt = -1 := rfl
  have l1 : (1 : Int32).toInt = 1 := rfl
  refine sat_stI (okI_of (by omega)) fun t_bag_2 e1 => ?_
  have h_t_bag_2 := ra_upd e1 h_t_bag (by omega)
  refine sat_stI (okI_of (by omega)) fun t_up_3 e2 => ?_
  have h_t_up_3 := ra_upd e2 h_t_up (by omega)
  refine sat_bnd fun t_bags_4 e3 => ?_
  try (have k4 : (t_bags + (1 : Int32)).toInt = t_bags.toInt + (1 : Int32).toInt := ti_add (by omega) (by omega))
  have te3 := congrArg Int32.toInt e3
  exact sat_some ⟨(by (try dsimp only); omega), h_t_bag_2, h_t_up_3, trivial⟩
theorem s_X9_bag (a1 : Int32) (t_knots : Int32) (t_bags : Int32) (t_bag : Nat → Int32) (t_up : Nat → Int32) (h_t_knots : 0 ≤ t_knots.toInt ∧ t_knots.toInt ≤ 14) (h_t_bags : 0 ≤ t_bags.toInt ∧ t_bags.toInt ≤ 14) (h_t_bag : ∀ i, 0 ≤ (t_bag i).toInt ∧ (t_bag i).toInt ≤ 16383) (h_t_up : ∀ i, -1 ≤ (t_up i).toInt ∧ (t_up i).toInt ≤ 13) : Sat (f_X9_bag a1 t_knots t_bags t_bag t_up) (fun r => (0 ≤ (r.2.1).toInt ∧ (r.2.1).toInt ≤ 14) ∧ (∀ i, 0 ≤ ((r.2.2.1) i).toInt ∧ ((r.2.2.1) i).toInt ≤ 16383) ∧ (∀ i, -1 ≤ ((r.2.2.2) i).toInt ∧ ((r.2.2.2) i).toInt ≤ 13) ∧ True) := by
  unfold f_X9_bag
  have l0 : (0 : Int32).toInt = 0 := rfl
  have l14 : (14 : Int32).toInt = 14 := rfl
  have l1 : (1 : Int32).toInt = 1 := rfl
  refine sat_ite (fun hc1 => ?_) (fun hc1 => ?_)
  · have thc1 := ple hc1
    exact sat_some ⟨(by (try dsimp only); omega), h_t_bag, h_t_up, trivial⟩
  · have thc1 := nle hc1
    refine sat_cal (s_X9_all t_knots (by omega)) fun u1 hu1 => ?_
    obtain ⟨hu1_0, -⟩ := hu1
    refine sat_ite (fun hc2 => ?_) (fun hc2 => ?_)
    · have thc2 := congrArg Int32.toInt hc2
      have hs := sub_rg hu1_0 (by omega) hc2
      refine sat_ite (fun hc3 => ?_) (fun hc3 => ?_)
      · have thc3 := congrArg Int32.toInt hc3
        exact sat_some ⟨(by (try dsimp only); omega), h_t_bag, h_t_up, trivial⟩
      · have thc3 := neq hc3
        refine sat_ite (fun hc4 => ?_) (fun hc4 => ?_)
        · have thc4 := ple hc4
          exact j_X9_bag_52 a1 t_knots t_bags t_bag t_up (by omega) (by omega) (by omega) h_t_bag h_t_up
        · have thc4 := nle hc4
          try (have k6 : (t_bags - (1 : Int32)).toInt = t_bags.toInt - (1 : Int32).toInt := ti_sub (by omega) (by omega))
          refine sat_stI (okI_of (by omega)) fun t_up_5 e5 => ?_
          have h_t_up_5 := ra_upd e5 h_t_up (by omega)
          exact j_X9_bag_52 a1 t_knots t_bags t_bag t_up_5 (by omega) (by omega) (by omega) h_t_bag h_t_up_5
    · have thc2 := neq hc2
      exact sat_some ⟨(by (try dsimp only); omega), h_t_bag, h_t_up, trivial⟩
theorem s_X9_hang (a1 : Int32) (a2 : Int32) (t_bags : Int32) (t_up : Nat → Int32) (h_t_bags : 0 ≤ t_bags.toInt ∧ t_bags.toInt ≤ 14) (h_t_up : ∀ i, -1 ≤ (t_up i).toInt ∧ (t_up i).toInt ≤ 13) : Sat (f_X9_hang a1 a2 t_bags t_up) (fun r => (∀ i, -1 ≤ ((r.2) i).toInt ∧ ((r.2) i).toInt ≤ 13) ∧ True) := by
  unfold f_X9_hang
  have l0 : (0 : Int32).toInt = 0 := rfl
  have l1 : (1 : Int32).toInt = 1 := rfl
  refine sat_ite (fun hc1 => ?_) (fun hc1 => ?_)
  · have thc1 := plt hc1
    exact sat_some ⟨h_t_up, trivial⟩
  · have thc1 := nlt hc1
    refine sat_ite (fun hc2 => ?_) (fun hc2 => ?_)
    · have thc2 := ple hc2
      exact sat_some ⟨h_t_up, trivial⟩
    · have thc2 := nle hc2
      refine sat_ite (fun hc3 => ?_) (fun hc3 => ?_)
      · have thc3 := plt hc3
        exact sat_some ⟨h_t_up, trivial⟩
      · have thc3 := nlt hc3
        refine sat_ite (fun hc4 => ?_) (fun hc4 => ?_)
        · have thc4 := plt hc4
          try (have k6 : (t_bags - (1 : Int32)).toInt = t_bags.toInt - (1 : Int32).toInt := ti_sub (by omega) (by omega))
          refine sat_ite (fun hc5 => ?_) (fun hc5 => ?_)
          · have thc5 := congrArg Int32.toInt hc5
            exact sat_some ⟨h_t_up, trivial⟩
          · have thc5 := neq hc5
            refine sat_ite (fun hc7 => ?_) (fun hc7 => ?_)
            · have thc7 := plt hc7
              refine sat_ldA (okI_of (by omega)) fun v1 e8 => ?_
              have hv1 := ra_get e8 h_t_up
              refine sat_bnd fun x3_2 e9 => ?_
              have te9 := congrArg Int32.toInt e9
              refine sat_stI (okI_of (by omega)) fun t_up_3 e10 => ?_
              have h_t_up_3 := ra_upd e10 h_t_up (by omega)
              exact sat_some ⟨h_t_up_3, trivial⟩
            · have thc7 := nlt hc7
              exact sat_some ⟨h_t_up, trivial⟩
        · have thc4 := nlt hc4
          exact sat_some ⟨h_t_up, trivial⟩
theorem l_X9_bagged_61 (a1 : Int32) (a2 : Int32) (t_bags : Int32) (t_bag : Nat → Int32) (t_up : Nat → Int32) (h_t_bags : 0 ≤ t_bags.toInt ∧ t_bags.toInt ≤ 14) (h_t_bag : ∀ i, 0 ≤ (t_bag i).toInt ∧ (t_bag i).toInt ≤ 16383) (h_t_up : ∀ i, -1 ≤ (t_up i).toInt ∧ (t_up i).toInt ≤ 13) : ∀ (n : Nat) (x3 : Int32) (x4 : Int32), (0 ≤ x4.toInt ∧ x4.toInt ≤ 14) → 14 - x4.toInt < (n : Int) → Sat (L_X9_bagged_61 a1 a2 t_bags t_bag t_up n x3 x4) (fun r => True) := by
  intro n
  induction n with
  | zero => intro x3 x4 h_x4 hM; exfalso; omega
  | succ n ih =>
    intro x3 x4 h_x4 hM
    rw [L_X9_bagged_61]
    have l1 : (1 : Int32).toInt = 1 := rfl
    have l0 : (0 : Int32).toInt = 0 := rfl
    refine sat_ite (fun hc1 => ?_) (fun hc1 => ?_)
    · have thc1 := ple hc1
      exact sat_some trivial
    · have thc1 := nle hc1
      refine sat_ldA (okI_of (by omega)) fun v8 e2 => ?_
      have hv8 := ra_get e2 h_t_up
      refine sat_ite (fun hc3 => ?_) (fun hc3 => ?_)
      · have thc3 := congrArg Int32.toInt hc3
        refine sat_bnd fun x3_11 e4 => ?_
        try (have k5 : (x3 + (1 : Int32)).toInt = x3.toInt + (1 : Int32).toInt := ti_add (by omega) (by omega))
        have te4 := congrArg Int32.toInt e4
        refine sat_bnd fun x4_12 e6 => ?_
        try (have k7 : (x4 + (1 : Int32)).toInt = x4.toInt + (1 : Int32).toInt := ti_add (by omega) (by omega))
        have te6 := congrArg Int32.toInt e6
        exact ih x3_11 x4_12 (by omega) (by omega)
      · have thc3 := neq hc3
        refine sat_bnd fun x3_9 e8 => ?_
        try (have k9 : (x3 + (0 : Int32)).toInt = x3.toInt + (0 : Int32).toInt := ti_add (by omega) (by omega))
        have te8 := congrArg Int32.toInt e8
        refine sat_bnd fun x4_10 e10 => ?_
        try (have k11 : (x4 + (1 : Int32)).toInt = x4.toInt + (1 : Int32).toInt := ti_add (by omega) (by omega))
        have te10 := congrArg Int32.toInt e10
        exact ih x3_9 x4_10 (by omega) (by omega)
theorem s_X9_bagged (a1 : Int32) (a2 : Int32) (t_bags : Int32) (t_bag : Nat → Int32) (t_up : Nat → Int32) (h_t_bags : 0 ≤ t_bags.toInt ∧ t_bags.toInt ≤ 14) (h_t_bag : ∀ i, 0 ≤ (t_bag i).toInt ∧ (t_bag i).toInt ≤ 16383) (h_t_up : ∀ i, -1 ≤ (t_up i).toInt ∧ (t_up i).toInt ≤ 13) : Sat (f_X9_bagged a1 a2 t_bags t_bag t_up) (fun r => True) := by
  unfold f_X9_bagged
  have l0 : (0 : Int32).toInt = 0 := rfl
  refine sat_ite (fun hc1 => ?_) (fun hc1 => ?_)
  · have thc1 := plt hc1
    exact sat_some trivial
  · have thc1 := nlt hc1
    refine sat_ite (fun hc2 => ?_) (fun hc2 => ?_)
    · have thc2 := plt hc2
      refine sat_bnd fun x3_1 e3 => ?_
      have te3 := congrArg Int32.toInt e3
      refine sat_ite (fun hc4 => ?_) (fun hc4 => ?_)
      · have thc4 := congrArg Int32.toInt hc4
        refine sat_ldA (okI_of (by omega)) fun v3 e5 => ?_
        have hv3 := ra_get e5 h_t_bag
        exact sat_some trivial
      · have thc4 := neq hc4
        refine sat_ite (fun hc6 => ?_) (fun hc6 => ?_)
        · have thc6 := congrArg Int32.toInt hc6
          refine sat_ldA (okI_of (by omega)) fun v5 e7 => ?_
          have hv5 := ra_get e7 h_t_up
          exact sat_some trivial
        · have thc6 := neq hc6
          refine sat_ite (fun hc8 => ?_) (fun hc8 => ?_)
          · have thc8 := congrArg Int32.toInt hc8
            refine sat_bnd fun x4_7 e9 => ?_
            have te9 := congrArg Int32.toInt e9
            have hNN := NN_i
            exact l_X9_bagged_61 a1 a2 t_bags t_bag t_up (by omega) h_t_bag h_t_up NN x3_1 x4_7 (by omega) (by omega)
          · have thc8 := neq hc8
            exact sat_some trivial
    · have thc2 := nlt hc2
      exact sat_some trivial
theorem l_X9_inOne_2 (a1 : Int32) (t_bags : Int32) (t_bag : Nat → Int32) (h_t_bags : 0 ≤ t_bags.toInt ∧ t_bags.toInt ≤ 14) (h_t_bag : ∀ i, 0 ≤ (t_bag i).toInt ∧ (t_bag i).toInt ≤ 16383) : ∀ (n : Nat) (x2 : Int32), (0 ≤ x2.toInt ∧ x2.toInt ≤ 14) → 14 - x2.toInt < (n : Int) → Sat (L_X9_inOne_2 a1 t_bags t_bag n x2) (fun r => (0 ≤ r.toInt ∧ r.toInt ≤ 1) ∧ True) := by
  intro n
  induction n with
  | zero => intro x2 h_x2 hM; exfalso; omega
  | succ n ih =>
    intro x2 h_x2 hM
    rw [L_X9_inOne_2]
    have l0 : (0 : Int32).toInt = 0 := rfl
    have l1 : (1 : Int32).toInt = 1 := rfl
    refine sat_ite (fun hc1 => ?_) (fun hc1 => ?_)
    · have thc1 := ple hc1
      exact sat_some ⟨(by omega), trivial⟩
    · have thc1 := nle hc1
      refine sat_ldA (okI_of (by omega)) fun v2 e2 => ?_
      have hv2 := ra_get e2 h_t_bag
      refine sat_ite (fun hc3 => ?_) (fun hc3 => ?_)
      · have thc3 := congrArg Int32.toInt hc3
        exact sat_some ⟨(by omega), trivial⟩
      · have thc3 := neq hc3
        refine sat_bnd fun x2_3 e4 => ?_
        try (have k5 : (x2 + (1 : Int32)).toInt = x2.toInt + (1 : Int32).toInt := ti_add (by omega) (by omega))
        have te4 := congrArg Int32.toInt e4
        exact ih x2_3 (by omega) (by omega)
theorem s_X9_inOne (a1 : Int32) (t_bags : Int32) (t_bag : Nat → Int32) (h_t_bags : 0 ≤ t_bags.toInt ∧ t_bags.toInt ≤ 14) (h_t_bag : ∀ i, 0 ≤ (t_bag i).toInt ∧ (t_bag i).toInt ≤ 16383) : Sat (f_X9_inOne a1 t_bags t_bag) (fun r => (0 ≤ r.toInt ∧ r.toInt ≤ 1) ∧ True) := by
  unfold f_X9_inOne
  have l0 : (0 : Int32).toInt = 0 := rfl
  refine sat_bnd fun x2_1 e1 => ?_
  have te1 := congrArg Int32.toInt e1
  have hNN := NN_i
  exact l_X9_inOne_2 a1 t_bags t_bag (by omega) h_t_bag NN x2_1 (by omega) (by omega)
theorem l_X9_sound_122 (t_knots : Int32) (t_bags : Int32) (t_beside : Nat → Int32) (t_bag : Nat → Int32) (t_up : Nat → Int32) (k_110 : Int32 → Option (Int32)) (g_110 : Int) (h_t_knots : 0 ≤ t_knots.toInt ∧ t_knots.toInt ≤ 14) (h_t_bags : 0 ≤ t_bags.toInt ∧ t_bags.toInt ≤ 14) (h_t_beside : ∀ i, 0 ≤ (t_beside i).toInt ∧ (t_beside i).toInt ≤ 16383) (h_t_bag : ∀ i, 0 ≤ (t_bag i).toInt ∧ (t_bag i).toInt ≤ 16383) (h_t_up : ∀ i, -1 ≤ (t_up i).toInt ∧ (t_up i).toInt ≤ 13) (hk_110 : ∀ (x1 : Int32), (0 ≤ x1.toInt ∧ x1.toInt ≤ 14) → (14 - x1.toInt < g_110) → Sat (k_110 x1) (fun r => True)) : ∀ (n : Nat) (x1 : Int32) (x2 : Int32) (x3 : Int32), (0 ≤ x1.toInt ∧ x1.toInt ≤ 13) → (0 ≤ x3.toInt ∧ x3.toInt ≤ 14) → (14 - x1.toInt ≤ g_110) → 14 - x3.toInt < (n : Int) → Sat (L_X9_sound_122 t_knots t_bags t_beside t_bag t_up k_110 n x1 x2 x3) (fun r => True) := by
  intro n
  induction n with
  | zero => intro x1 x2 x3 h_x1 h_x3 hg_110 hM; exfalso; omega
  | succ n ih =>
    intro x1 x2 x3 h_x1 h_x3 hg_110 hM
    rw [L_X9_sound_122]
    have l1 : (1 : Int32).toInt = 1 := rfl
    have l0 : (0 : Int32).toInt = 0 := rfl
    refine sat_ite (fun hc1 => ?_) (fun hc1 => ?_)
    · have thc1 := ple hc1
      refine sat_ite (fun hc2 => ?_) (fun hc2 => ?_)
      · have thc2 := congrArg Int32.toInt hc2
        refine sat_bnd fun x1_6 e3 => ?_
        try (have k4 : (x1 + (1 : Int32)).toInt = x1.toInt + (1 : Int32).toInt := ti_add (by omega) (by omega))
        have te3 := congrArg Int32.toInt e3
        exact hk_110 x1_6 (by omega) (by omega)
      · have thc2 := neq hc2
        exact sat_some trivial
    · have thc1 := nle hc1
      refine sat_ldA (okI_of (by omega)) fun v7 e5 => ?_
      have hv7 := ra_get e5 h_t_bag
      refine sat_ite (fun hc6 => ?_) (fun hc6 => ?_)
      · have thc6 := congrArg Int32.toInt hc6
        refine sat_ldA (okI_of (by omega)) fun v9 e7 => ?_
        have hv9 := ra_get e7 h_t_up
        refine sat_ite (fun hc8 => ?_) (fun hc8 => ?_)
        · have thc8 := plt hc8
          refine sat_bnd fun x2_10 e9 => ?_
          try (have k10 : (x2 + (1 : Int32)).toInt = x2.toInt + (1 : Int32).toInt := ti_add (by omega) (by omega))
          have te9 := congrArg Int32.toInt e9
          refine sat_bnd fun x3_11 e11 => ?_
          try (have k12 : (x3 + (1 : Int32)).toInt = x3.toInt + (1 : Int32).toInt := ti_add (by omega) (by omega))
          have te11 := congrArg Int32.toInt e11
          exact ih x1 x2_10 x3_11 (by omega) (by omega) (by omega) (by omega)
        · have thc8 := nlt hc8
          refine sat_ldA (okI_of (by omega)) fun v12 e13 => ?_
          have tdv12 := congrArg Int32.toInt (e13.trans e7.symm)
          have hv12 := ra_get e13 h_t_up
          refine sat_ldA (okI_of (by omega)) fun v13 e14 => ?_
          have hv13 := ra_get e14 h_t_bag
          refine sat_ite (fun hc15 => ?_) (fun hc15 => ?_)
          · have thc15 := congrArg Int32.toInt hc15
            refine sat_bnd fun x2_15 e16 => ?_
            try (have k17 : (x2 + (1 : Int32)).toInt = x2.toInt + (1 : Int32).toInt := ti_add (by omega) (by omega))
            have te16 := congrArg Int32.toInt e16
            refine sat_bnd fun x3_16 e18 => ?_
            try (have k19 : (x3 + (1 : Int32)).toInt = x3.toInt + (1 : Int32).toInt := ti_add (by omega) (by omega))
            have te18 := congrArg Int32.toInt e18
            exact ih x1 x2_15 x3_16 (by omega) (by omega) (by omega) (by omega)
          · have thc15 := neq hc15
            refine sat_bnd fun x3_14 e20 => ?_
            try (have k21 : (x3 + (1 : Int32)).toInt = x3.toInt + (1 : Int32).toInt := ti_add (by omega) (by omega))
            have te20 := congrArg Int32.toInt e20
            exact ih x1 x2 x3_14 (by omega) (by omega) (by omega) (by omega)
      · have thc6 := neq hc6
        refine sat_bnd fun x3_8 e22 => ?_
        try (have k23 : (x3 + (1 : Int32)).toInt = x3.toInt + (1 : Int32).toInt := ti_add (by omega) (by omega))
        have te22 := congrArg Int32.toInt e22
        exact ih x1 x2 x3_8 (by omega) (by omega) (by omega) (by omega)
theorem l_X9_sound_110 (t_knots : Int32) (t_bags : Int32) (t_beside : Nat → Int32) (t_bag : Nat → Int32) (t_up : Nat → Int32) (h_t_knots : 0 ≤ t_knots.toInt ∧ t_knots.toInt ≤ 14) (h_t_bags : 0 ≤ t_bags.toInt ∧ t_bags.toInt ≤ 14) (h_t_beside : ∀ i, 0 ≤ (t_beside i).toInt ∧ (t_beside i).toInt ≤ 16383) (h_t_bag : ∀ i, 0 ≤ (t_bag i).toInt ∧ (t_bag i).toInt ≤ 16383) (h_t_up : ∀ i, -1 ≤ (t_up i).toInt ∧ (t_up i).toInt ≤ 13) : ∀ (n : Nat) (x1 : Int32), (0 ≤ x1.toInt ∧ x1.toInt ≤ 14) → 14 - x1.toInt < (n : Int) → Sat (L_X9_sound_110 t_knots t_bags t_beside t_bag t_up n x1) (fun r => True) := by
  intro n
  induction n with
  | zero => intro x1 h_x1 hM; exfalso; omega
  | succ n ih =>
    intro x1 h_x1 hM
    rw [L_X9_sound_110]
    have l0 : (0 : Int32).toInt = 0 := rfl
    refine sat_ite (fun hc1 => ?_) (fun hc1 => ?_)
    · have thc1 := ple hc1
      exact sat_some trivial
    · have thc1 := nle hc1
      refine sat_bnd fun x2_4 e2 => ?_
      have te2 := congrArg Int32.toInt e2
      refine sat_bnd fun x3_5 e3 => ?_
      have te3 := congrArg Int32.toInt e3
      have hNN := NN_i
      exact l_X9_sound_122 t_knots t_bags t_beside t_bag t_up (fun y0 => L_X9_sound_110 t_knots t_bags t_beside t_bag t_up n y0) (n : Int) (by omega) (by omega) h_t_beside h_t_bag h_t_up (fun y0 z0 zm => ih y0 z0 zm) NN x1 x2_4 x3_5 (by omega) (by omega) (by omega) (by omega)
theorem l_X9_sound_78 (t_knots : Int32) (t_bags : Int32) (t_beside : Nat → Int32) (t_bag : Nat → Int32) (t_up : Nat → Int32) (h_t_knots : 0 ≤ t_knots.toInt ∧ t_knots.toInt ≤ 14) (h_t_bags : 0 ≤ t_bags.toInt ∧ t_bags.toInt ≤ 14) (h_t_beside : ∀ i, 0 ≤ (t_beside i).toInt ∧ (t_beside i).toInt ≤ 16383) (h_t_bag : ∀ i, 0 ≤ (t_bag i).toInt ∧ (t_bag i).toInt ≤ 16383) (h_t_up : ∀ i, -1 ≤ (t_up i).toInt ∧ (t_up i).toInt ≤ 13) : ∀ (n : Nat) (x1 : Int32), (0 ≤ x1.toInt ∧ x1.toInt ≤ 14) → 14 - x1.toInt < (n : Int) → Sat (L_X9_sound_78 t_knots t_bags t_beside t_bag t_up n x1) (fun r => True) := by
  intro n
  induction n with
  | zero => intro x1 h_x1 hM; exfalso; omega
  | succ n ih =>
    intro x1 h_x1 hM
    rw [L_X9_sound_78]
    have l0 : (0 : Int32).toInt = 0 := rfl
    have l1 : (1 : Int32).toInt = 1 := rfl
    refine sat_ite (fun hc1 => ?_) (fun hc1 => ?_)
    · have thc1 := ple hc1
      refine sat_bnd fun x1_3 e2 => ?_
      have te2 := congrArg Int32.toInt e2
      have hNN := NN_i
      exact l_X9_sound_110 t_knots t_bags t_beside t_bag t_up (by omega) (by omega) h_t_beside h_t_bag h_t_up NN x1_3 (by omega) (by omega)
    · have thc1 := nle hc1
      refine sat_cal (s_X9_inOne ((1 : Int32) <<< (x1 &&& 31)) t_bags t_bag (by omega) h_t_bag) fun u17 hu17 => ?_
      obtain ⟨hu17_0, -⟩ := hu17
      refine sat_ite (fun hc3 => ?_) (fun hc3 => ?_)
      · have thc3 := congrArg Int32.toInt hc3
        exact sat_some trivial
      · have thc3 := neq hc3
        refine sat_bnd fun x1_18 e4 => ?_
        try (have k5 : (x1 + (1 : Int32)).toInt = x1.toInt + (1 : Int32).toInt := ti_add (by omega) (by omega))
        have te4 := congrArg Int32.toInt e4
        exact ih x1_18 (by omega) (by omega)
theorem l_X9_sound_24 (t_knots : Int32) (t_bags : Int32) (t_beside : Nat → Int32) (t_bag : Nat → Int32) (t_up : Nat → Int32) (k_12 : Int32 → Option (Int32)) (g_12 : Int) (h_t_knots : 0 ≤ t_knots.toInt ∧ t_knots.toInt ≤ 14) (h_t_bags : 0 ≤ t_bags.toInt ∧ t_bags.toInt ≤ 14) (h_t_beside : ∀ i, 0 ≤ (t_beside i).toInt ∧ (t_beside i).toInt ≤ 16383) (h_t_bag : ∀ i, 0 ≤ (t_bag i).toInt ∧ (t_bag i).toInt ≤ 16383) (h_t_up : ∀ i, -1 ≤ (t_up i).toInt ∧ (t_up i).toInt ≤ 13) (hk_12 : ∀ (x1 : Int32), (0 ≤ x1.toInt ∧ x1.toInt ≤ 14) → (14 - x1.toInt < g_12) → Sat (k_12 x1) (fun r => True)) : ∀ (n : Nat) (x1 : Int32) (x2 : Int32), (0 ≤ x1.toInt ∧ x1.toInt ≤ 13) → (0 ≤ x2.toInt ∧ x2.toInt ≤ 14) → (14 - x1.toInt ≤ g_12) → 14 - x2.toInt < (n : Int) → Sat (L_X9_sound_24 t_knots t_bags t_beside t_bag t_up k_12 n x1 x2) (fun r => True) := by
  intro n
  induction n with
  | zero => intro x1 x2 h_x1 h_x2 hg_12 hM; exfalso; omega
  | succ n ih =>
    intro x1 x2 h_x1 h_x2 hg_12 hM
    rw [L_X9_sound_24]
    have l1 : (1 : Int32).toInt = 1 := rfl
    have l0 : (0 : Int32).toInt = 0 := rfl
    refine sat_ite (fun hc1 => ?_) (fun hc1 => ?_)
    · have thc1 := ple hc1
      refine sat_bnd fun x1_20 e2 => ?_
      try (have k3 : (x1 + (1 : Int32)).toInt = x1.toInt + (1 : Int32).toInt := ti_add (by omega) (by omega))
      have te2 := congrArg Int32.toInt e2
      exact hk_12 x1_20 (by omega) (by omega)
    · have thc1 := nle hc1
      refine sat_cal (s_X9_isEdge x1 x2 t_knots t_beside (by omega) h_t_beside) fun u21 hu21 => ?_
      obtain ⟨hu21_0, -⟩ := hu21
      refine sat_ite (fun hc4 => ?_) (fun hc4 => ?_)
      · have thc4 := congrArg Int32.toInt hc4
        refine sat_bnd fun x2_22 e5 => ?_
        try (have k6 : (x2 + (1 : Int32)).toInt = x2.toInt + (1 : Int32).toInt := ti_add (by omega) (by omega))
        have te5 := congrArg Int32.toInt e5
        exact ih x1 x2_22 (by omega) (by omega) (by omega) (by omega)
      · have thc4 := neq hc4
        refine sat_cal (s_X9_inOne (((1 : Int32) <<< (x1 &&& 31)) ||| ((1 : Int32) <<< (x2 &&& 31))) t_bags t_bag (by omega) h_t_bag) fun u23 hu23 => ?_
        obtain ⟨hu23_0, -⟩ := hu23
        refine sat_ite (fun hc7 => ?_) (fun hc7 => ?_)
        · have thc7 := congrArg Int32.toInt hc7
          exact sat_some trivial
        · have thc7 := neq hc7
          refine sat_bnd fun x2_24 e8 => ?_
          try (have k9 : (x2 + (1 : Int32)).toInt = x2.toInt + (1 : Int32).toInt := ti_add (by omega) (by omega))
          have te8 := congrArg Int32.toInt e8
          exact ih x1 x2_24 (by omega) (by omega) (by omega) (by omega)
theorem l_X9_sound_12 (t_knots : Int32) (t_bags : Int32) (t_beside : Nat → Int32) (t_bag : Nat → Int32) (t_up : Nat → Int32) (h_t_knots : 0 ≤ t_knots.toInt ∧ t_knots.toInt ≤ 14) (h_t_bags : 0 ≤ t_bags.toInt ∧ t_bags.toInt ≤ 14) (h_t_beside : ∀ i, 0 ≤ (t_beside i).toInt ∧ (t_beside i).toInt ≤ 16383) (h_t_bag : ∀ i, 0 ≤ (t_bag i).toInt ∧ (t_bag i).toInt ≤ 16383) (h_t_up : ∀ i, -1 ≤ (t_up i).toInt ∧ (t_up i).toInt ≤ 13) : ∀ (n : Nat) (x1 : Int32), (0 ≤ x1.toInt ∧ x1.toInt ≤ 14) → 14 - x1.toInt < (n : Int) → Sat (L_X9_sound_12 t_knots t_bags t_beside t_bag t_up n x1) (fun r => True) := by
  intro n
  induction n with
  | zero => intro x1 h_x1 hM; exfalso; omega
  | succ n ih =>
    intro x1 h_x1 hM
    rw [L_X9_sound_12]
    have l0 : (0 : Int32).toInt = 0 := rfl
    have l1 : (1 : Int32).toInt = 1 := rfl
    refine sat_ite (fun hc1 => ?_) (fun hc1 => ?_)
    · have thc1 := ple hc1
      refine sat_bnd fun x1_2 e2 => ?_
      have te2 := congrArg Int32.toInt e2
      have hNN := NN_i
      exact l_X9_sound_78 t_knots t_bags t_beside t_bag t_up (by omega) (by omega) h_t_beside h_t_bag h_t_up NN x1_2 (by omega) (by omega)
    · have thc1 := nle hc1
      refine sat_bnd fun x2_19 e3 => ?_
      try (have k4 : (x1 + (1 : Int32)).toInt = x1.toInt + (1 : Int32).toInt := ti_add (by omega) (by omega))
      have te3 := congrArg Int32.toInt e3
      have hNN := NN_i
      exact l_X9_sound_24 t_knots t_bags t_beside t_bag t_up (fun y0 => L_X9_sound_12 t_knots t_bags t_beside t_bag t_up n y0) (n : Int) (by omega) (by omega) h_t_beside h_t_bag h_t_up (fun y0 z0 zm => ih y0 z0 zm) NN x1 x2_19 (by omega) (by omega) (by omega) (by omega)
theorem s_X9_sound (t_knots : Int32) (t_bags : Int32) (t_beside : Nat → Int32) (t_bag : Nat → Int32) (t_up : Nat → Int32) (h_t_knots : 0 ≤ t_knots.toInt ∧ t_knots.toInt ≤ 14) (h_t_bags : 0 ≤ t_bags.toInt ∧ t_bags.toInt ≤ 14) (h_t_beside : ∀ i, 0 ≤ (t_beside i).toInt ∧ (t_beside i).toInt ≤ 16383) (h_t_bag : ∀ i, 0 ≤ (t_bag i).toInt ∧ (t_bag i).toInt ≤ 16383) (h_t_up : ∀ i, -1 ≤ (t_up i).toInt ∧ (t_up i).toInt ≤ 13) : Sat (f_X9_sound t_knots t_bags t_beside t_bag t_up) (fun r => True) := by
  unfold f_X9_sound
  have l0 : (0 : Int32).toInt = 0 := rfl
  refine sat_ite (fun hc1 => ?_) (fun hc1 => ?_)
  · have thc1 := congrArg Int32.toInt hc1
    exact sat_some trivial
  · have thc1 := neq hc1
    refine sat_bnd fun x1_1 e2 => ?_
    have te2 := congrArg Int32.toInt e2
    have hNN := NN_i
    exact l_X9_sound_12 t_knots t_bags t_beside t_bag t_up (by omega) (by omega) h_t_beside h_t_bag h_t_up NN x1_1 (by omega) (by omega)
theorem j_X9_separator_136 (t_knots : Int32) (t_bags : Int32) (t_beside : Nat → Int32) (t_bag : Nat → Int32) (t_up : Nat → Int32) (k_43 : Int32 → Int32 → Int32 → Option (Int32)) (g_19 : Int) (g_43 : Int) (h_t_knots : 0 ≤ t_knots.toInt ∧ t_knots.toInt ≤ 14) (h_t_bags : 0 ≤ t_bags.toInt ∧ t_bags.toInt ≤ 14) (h_t_beside : ∀ i, 0 ≤ (t_beside i).toInt ∧ (t_beside i).toInt ≤ 16383) (h_t_bag : ∀ i, 0 ≤ (t_bag i).toInt ∧ (t_bag i).toInt ≤ 16383) (h_t_up : ∀ i, -1 ≤ (t_up i).toInt ∧ (t_up i).toInt ≤ 13) (hk_43 : ∀ (x1 : Int32) (x2 : Int32) (x3 : Int32), (0 ≤ x1.toInt ∧ x1.toInt ≤ 13) → (0 ≤ x2.toInt ∧ x2.toInt ≤ 16383) → (14 - x1.toInt ≤ g_19) → (x2.toInt < g_43) → Sat (k_43 x1 x2 x3) (fun r => True)) : ∀ (x1 : Int32) (x2 : Int32) (x4 : Int32), (0 ≤ x1.toInt ∧ x1.toInt ≤ 13) → (0 ≤ x2.toInt ∧ x2.toInt ≤ 16383) → (0 ≤ x4.toInt ∧ x4.toInt ≤ 16383) → (∃ i : Nat, x4.toNatClampNeg.testBit i = true ∧ x2.toNatClampNeg.testBit i = true) → (14 - x1.toInt ≤ g_19) → (x2.toInt ≤ g_43) → Sat (J_X9_separator_136 t_knots t_bags t_beside t_bag t_up k_43 x1 x2 x4) (fun r => True) := by
  intro x1 x2 x4 h_x1 h_x2 h_x4 hi0 hg_19 hg_43
  unfold J_X9_separator_136
  refine sat_bnd fun x3_10 _ => ?_
  refine sat_bnd fun x2_11 e => ?_
  obtain ⟨i, h1, h2⟩ := hi0
  have hc := clr h_x2 h_x4 h2 h1
  rw [← e] at hc
  exact hk_43 x1 x2_11 x3_10 h_x1 (by rw [e]; exact anl_rg h_x2) hg_19 (by omega)
theorem l_X9_separator_70 (t_knots : Int32) (t_bags : Int32) (t_beside : Nat → Int32) (t_bag : Nat → Int32) (t_up : Nat → Int32) (k_56 : Int32 → Int32 → Int32 → Int32 → Int32 → Option (Int32)) (g_19 : Int) (g_43 : Int) (g_56 : Int) (h_t_knots : 0 ≤ t_knots.toInt ∧ t_knots.toInt ≤ 14) (h_t_bags : 0 ≤ t_bags.toInt ∧ t_bags.toInt ≤ 14) (h_t_beside : ∀ i, 0 ≤ (t_beside i).toInt ∧ (t_beside i).toInt ≤ 16383) (h_t_bag : ∀ i, 0 ≤ (t_bag i).toInt ∧ (t_bag i).toInt ≤ 16383) (h_t_up : ∀ i, -1 ≤ (t_up i).toInt ∧ (t_up i).toInt ≤ 13) (hk_56 : ∀ (x1 : Int32) (x2 : Int32) (x3 : Int32) (x4 : Int32) (x5 : Int32), (0 ≤ x1.toInt ∧ x1.toInt ≤ 13) → (0 ≤ x2.toInt ∧ x2.toInt ≤ 16383) → (0 ≤ x4.toInt ∧ x4.toInt ≤ 16383) → (0 ≤ x5.toInt ∧ x5.toInt ≤ 16383) → (x5.toInt ≤ x4.toInt) → (∃ i : Nat, x4.toNatClampNeg.testBit i = true ∧ x2.toNatClampNeg.testBit i = true) → (14 - x1.toInt ≤ g_19) → (x2.toInt ≤ g_43) → (16383 - x5.toInt < g_56) → Sat (k_56 x1 x2 x3 x4 x5) (fun r => True)) : ∀ (n : Nat) (x1 : Int32) (x2 : Int32) (x3 : Int32) (x4 : Int32) (x5 : Int32) (x6 : Int32), (0 ≤ x1.toInt ∧ x1.toInt ≤ 13) → (0 ≤ x2.toInt ∧ x2.toInt ≤ 16383) → (0 ≤ x4.toInt ∧ x4.toInt ≤ 16383) → (0 ≤ x5.toInt ∧ x5.toInt ≤ 16383) → (0 ≤ x6.toInt ∧ x6.toInt ≤ 14) → (x5.toInt ≤ x4.toInt) → (∃ i : Nat, x4.toNatClampNeg.testBit i = true ∧ x2.toNatClampNeg.testBit i = true) → (16383 - x5.toInt < g_56) → (14 - x1.toInt ≤ g_19) → (x2.toInt ≤ g_43) → (16383 - x5.toInt ≤ g_56) → 14 - x6.toInt < (n : Int) → Sat (L_X9_separator_70 t_knots t_bags t_beside t_bag t_up k_56 n x1 x2 x3 x4 x5 x6) (fun r => True) := by
  intro n
  induction n with
  | zero => intro x1 x2 x3 x4 x5 x6 h_x1 h_x2 h_x4 h_x5 h_x6 hi0 hi1 hi2 hg_19 hg_43 hg_56 hM; exfalso; omega
  | succ n ih =>
    intro x1 x2 x3 x4 x5 x6 h_x1 h_x2 h_x4 h_x5 h_x6 hi0 hi1 hi2 hg_19 hg_43 hg_56 hM
    rw [L_X9_separator_70]
    have l1 : (1 : Int32).toInt = 1 := rfl
    refine sat_ite (fun hc => ?_) (fun hc => ?_)
    · exact hk_56 x1 x2 x3 x4 x5 h_x1 h_x2 h_x4 h_x5 hi0 hi1 hg_19 hg_43 hi2
    · have hc := nle hc
      have k6 : (x6 + (1 : Int32)).toInt = x6.toInt + (1 : Int32).toInt := ti_add (by omega) (by omega)
      refine sat_ite (fun hd => ?_) (fun hd => ?_)
      · refine sat_ldA (okI_of (by omega)) fun v18 e18 => ?_
        have hv := ra_get e18 h_t_beside
        have ha : 0 ≤ (v18 &&& x2).toInt ∧ (v18 &&& x2).toInt ≤ 16383 := anl_rg hv
        refine sat_bnd fun x4_19 e4 => ?_
        refine sat_bnd fun x6_20 e6 => ?_
        have te6 := congrArg Int32.toInt e6
        have hge := or_ge h_x4 ha
        rw [← e4] at hge
        obtain ⟨i, h1, h2⟩ := hi1
        exact ih x1 x2 x3 x4_19 x5 x6_20 h_x1 h_x2 (by rw [e4]; exact or_rg h_x4 ha) h_x5 (by omega) (by omega) ⟨i, by rw [e4, or_tb h_x4 ha, h1]; rfl, h2⟩ hi2 hg_19 hg_43 hg_56 (by omega)
      · refine sat_bnd fun x6_17 e6 => ?_
        have te6 := congrArg Int32.toInt e6
        exact ih x1 x2 x3 x4 x5 x6_17 h_x1 h_x2 h_x4 h_x5 (by omega) hi0 hi1 hi2 hg_19 hg_43 hg_56 (by omega)
theorem l_X9_separator_56 (t_knots : Int32) (t_bags : Int32) (t_beside : Nat → Int32) (t_bag : Nat → Int32) (t_up : Nat → Int32) (k_43 : Int32 → Int32 → Int32 → Option (Int32)) (g_19 : Int) (g_43 : Int) (h_t_knots : 0 ≤ t_knots.toInt ∧ t_knots.toInt ≤ 14) (h_t_bags : 0 ≤ t_bags.toInt ∧ t_bags.toInt ≤ 14) (h_t_beside : ∀ i, 0 ≤ (t_beside i).toInt ∧ (t_beside i).toInt ≤ 16383) (h_t_bag : ∀ i, 0 ≤ (t_bag i).toInt ∧ (t_bag i).toInt ≤ 16383) (h_t_up : ∀ i, -1 ≤ (t_up i).toInt ∧ (t_up i).toInt ≤ 13) (hk_43 : ∀ (x1 : Int32) (x2 : Int32) (x3 : Int32), (0 ≤ x1.toInt ∧ x1.toInt ≤ 13) → (0 ≤ x2.toInt ∧ x2.toInt ≤ 16383) → (14 - x1.toInt ≤ g_19) → (x2.toInt < g_43) → Sat (k_43 x1 x2 x3) (fun r => True)) : ∀ (n : Nat) (x1 : Int32) (x2 : Int32) (x3 : Int32) (x4 : Int32) (x5 : Int32), (0 ≤ x1.toInt ∧ x1.toInt ≤ 13) → (0 ≤ x2.toInt ∧ x2.toInt ≤ 16383) → (0 ≤ x4.toInt ∧ x4.toInt ≤ 16383) → (0 ≤ x5.toInt ∧ x5.toInt ≤ 16383) → (x5.toInt ≤ x4.toInt) → (∃ i : Nat, x4.toNatClampNeg.testBit i = true ∧ x2.toNatClampNeg.testBit i = true) → (14 - x1.toInt ≤ g_19) → (x2.toInt ≤ g_43) → 16383 - x5.toInt < (n : Int) → Sat (L_X9_separator_56 t_knots t_bags t_beside t_bag t_up k_43 n x1 x2 x3 x4 x5) (fun r => True) := by
  intro n
  induction n with
  | zero => intro x1 x2 x3 x4 x5 h_x1 h_x2 h_x4 h_x5 hi0 hi1 hg_19 hg_43 hM; exfalso; omega
  | succ n ih =>
    intro x1 x2 x3 x4 x5 h_x1 h_x2 h_x4 h_x5 hi0 hi1 hg_19 hg_43 hM
    rw [L_X9_separator_56]
    have l0 : (0 : Int32).toInt = 0 := rfl
    refine sat_ite (fun hc => ?_) (fun hc => ?_)
    · refine sat_ite (fun _ => ?_) (fun _ => ?_)
      · exact j_X9_separator_136 t_knots t_bags t_beside t_bag t_up k_43 g_19 g_43 h_t_knots h_t_bags h_t_beside h_t_bag h_t_up hk_43 x1 x2 x4 h_x1 h_x2 h_x4 hi1 hg_19 hg_43
      · refine sat_cal (s_X9_bits x4 h_x4) fun u12 _ => ?_
        refine sat_ite (fun _ => ?_) (fun _ => ?_)
        · exact j_X9_separator_136 t_knots t_bags t_beside t_bag t_up k_43 g_19 g_43 h_t_knots h_t_bags h_t_beside h_t_bag h_t_up hk_43 x1 x2 x4 h_x1 h_x2 h_x4 hi1 hg_19 hg_43
        · refine sat_bnd fun x3_13 _ => ?_
          refine sat_bnd fun x2_14 e => ?_
          obtain ⟨i, h1, h2⟩ := hi1
          have hc := clr h_x2 h_x4 h2 h1
          rw [← e] at hc
          exact hk_43 x1 x2_14 x3_13 h_x1 (by rw [e]; exact anl_rg h_x2) hg_19 (by omega)
    · have hc := neq hc
      refine sat_bnd fun x5_15 e5 => ?_
      refine sat_bnd fun x6_16 e6 => ?_
      have te5 := congrArg Int32.toInt e5
      have te6 := congrArg Int32.toInt e6
      have hNN := NN_i
      exact l_X9_separator_70 t_knots t_bags t_beside t_bag t_up (fun y0 y1 y2 y3 y4 => L_X9_separator_56 t_knots t_bags t_beside t_bag t_up k_43 n y0 y1 y2 y3 y4) g_19 g_43 (n : Int) h_t_knots h_t_bags h_t_beside h_t_bag h_t_up (fun y0 y1 y2 y3 y4 z0 z1 z2 z3 z4 z5 z6 z7 zm => ih y0 y1 y2 y3 y4 z0 z1 z2 z3 z4 z5 z6 z7 zm) NN x1 x2 x3 x4 x5_15 x6_16 h_x1 h_x2 h_x4 (by omega) (by omega) (by omega) hi1 (by omega) hg_19 hg_43 (by omega) (by omega)
theorem l_X9_separator_43 (t_knots : Int32) (t_bags : Int32) (t_beside : Nat → Int32) (t_bag : Nat → Int32) (t_up : Nat → Int32) (k_19 : Int32 → Option (Int32)) (g_19 : Int) (h_t_knots : 0 ≤ t_knots.toInt ∧ t_knots.toInt ≤ 14) (h_t_bags : 0 ≤ t_bags.toInt ∧ t_bags.toInt ≤ 14) (h_t_beside : ∀ i, 0 ≤ (t_beside i).toInt ∧ (t_beside i).toInt ≤ 16383) (h_t_bag : ∀ i, 0 ≤ (t_bag i).toInt ∧ (t_bag i).toInt ≤ 16383) (h_t_up : ∀ i, -1 ≤ (t_up i).toInt ∧ (t_up i).toInt ≤ 13) (hk_19 : ∀ (x1 : Int32), (0 ≤ x1.toInt ∧ x1.toInt ≤ 14) → (14 - x1.toInt < g_19) → Sat (k_19 x1) (fun r => True)) : ∀ (n : Nat) (x1 : Int32) (x2 : Int32) (x3 : Int32), (0 ≤ x1.toInt ∧ x1.toInt ≤ 13) → (0 ≤ x2.toInt ∧ x2.toInt ≤ 16383) → (14 - x1.toInt ≤ g_19) → x2.toInt < (n : Int) → Sat (L_X9_separator_43 t_knots t_bags t_beside t_bag t_up k_19 n x1 x2 x3) (fun r => True) := by
  intro n
  induction n with
  | zero => intro x1 x2 x3 h_x1 h_x2 hg_19 hM; exfalso; omega
  | succ n ih =>
    intro x1 x2 x3 h_x1 h_x2 hg_19 hM
    rw [L_X9_separator_43]
    have l1 : (1 : Int32).toInt = 1 := rfl
    have l0 : (0 : Int32).toInt = 0 := rfl
    refine sat_ite (fun hc => ?_) (fun hc => ?_)
    · refine sat_ite (fun _ => ?_) (fun _ => ?_)
      · refine sat_bnd fun x1_7 e => ?_
        have k1 : (x1 + (1 : Int32)).toInt = x1.toInt + (1 : Int32).toInt := ti_add (by omega) (by omega)
        have te := congrArg Int32.toInt e
        exact hk_19 x1_7 (by omega) (by omega)
      · exact sat_some trivial
    · obtain ⟨i, h1, h2⟩ := low_c h_x2 hc
      refine sat_bnd fun x4_8 e4 => ?_
      refine sat_bnd fun x5_9 e5 => ?_
      have te5 := congrArg Int32.toInt e5
      have h4 : 0 ≤ x4_8.toInt ∧ x4_8.toInt ≤ 16383 := by rw [e4]; exact anl_rg h_x2
      have hNN := NN_i
      exact l_X9_separator_56 t_knots t_bags t_beside t_bag t_up (fun y0 y1 y2 => L_X9_separator_43 t_knots t_bags t_beside t_bag t_up k_19 n y0 y1 y2) g_19 (n : Int) h_t_knots h_t_bags h_t_beside h_t_bag h_t_up (fun y0 y1 y2 z0 z1 z2 zm => ih y0 y1 y2 z0 z1 z2 zm) NN x1 x2 x3 x4_8 x5_9 h_x1 h_x2 h4 (by omega) (by omega) ⟨i, by rw [e4]; exact h1, h2⟩ hg_19 (by omega) (by omega)
theorem l_X9_separator_19 (t_knots : Int32) (t_bags : Int32) (t_beside : Nat → Int32) (t_bag : Nat → Int32) (t_up : Nat → Int32) (h_t_knots : 0 ≤ t_knots.toInt ∧ t_knots.toInt ≤ 14) (h_t_bags : 0 ≤ t_bags.toInt ∧ t_bags.toInt ≤ 14) (h_t_beside : ∀ i, 0 ≤ (t_beside i).toInt ∧ (t_beside i).toInt ≤ 16383) (h_t_bag : ∀ i, 0 ≤ (t_bag i).toInt ∧ (t_bag i).toInt ≤ 16383) (h_t_up : ∀ i, -1 ≤ (t_up i).toInt ∧ (t_up i).toInt ≤ 13) : ∀ (n : Nat) (x1 : Int32), (0 ≤ x1.toInt ∧ x1.toInt ≤ 14) → 14 - x1.toInt < (n : Int) → Sat (L_X9_separator_19 t_knots t_bags t_beside t_bag t_up n x1) (fun r => True) := by
  intro n
  induction n with
  | zero => intro x1 h_x1 hM; exfalso; omega
  | succ n ih =>
    intro x1 h_x1 hM
    rw [L_X9_separator_19]
    have l1 : (1 : Int32).toInt = 1 := rfl
    refine sat_ite (fun hc1 => ?_) (fun hc1 => ?_)
    · have thc1 := ple hc1
      exact sat_some trivial
    · have thc1 := nle hc1
      refine sat_cal (s_X9_all t_knots (by omega)) fun u3 hu3 => ?_
      obtain ⟨hu3_0, -⟩ := hu3
      refine sat_ldA (okI_of (by omega)) fun v4 e2 => ?_
      have hv4 := ra_get e2 h_t_bag
      refine sat_bnd fun x2_5 e3 => ?_
      try (have te3 : 0 ≤ x2_5.toInt ∧ x2_5.toInt ≤ 16383 := by rw [e3]; exact (anl_rg (by omega)))
      refine sat_bnd fun x3_6 e4 => ?_
      have te4 := congrArg Int32.toInt e4
      have hNN := NN_i
      exact l_X9_separator_43 t_knots t_bags t_beside t_bag t_up (fun y0 => L_X9_separator_19 t_knots t_bags t_beside t_bag t_up n y0) (n : Int) (by omega) (by omega) h_t_beside h_t_bag h_t_up (fun y0 z0 zm => ih y0 z0 zm) NN x1 x2_5 x3_6 (by omega) (by omega) (by omega) (by omega)
theorem s_X9_separator (t_knots : Int32) (t_bags : Int32) (t_beside : Nat → Int32) (t_bag : Nat → Int32) (t_up : Nat → Int32) (h_t_knots : 0 ≤ t_knots.toInt ∧ t_knots.toInt ≤ 14) (h_t_bags : 0 ≤ t_bags.toInt ∧ t_bags.toInt ≤ 14) (h_t_beside : ∀ i, 0 ≤ (t_beside i).toInt ∧ (t_beside i).toInt ≤ 16383) (h_t_bag : ∀ i, 0 ≤ (t_bag i).toInt ∧ (t_bag i).toInt ≤ 16383) (h_t_up : ∀ i, -1 ≤ (t_up i).toInt ∧ (t_up i).toInt ≤ 13) : Sat (f_X9_separator t_knots t_bags t_beside t_bag t_up) (fun r => True) := by
  unfold f_X9_separator
  have l0 : (0 : Int32).toInt = 0 := rfl
  refine sat_ite (fun hc1 => ?_) (fun hc1 => ?_)
  · have thc1 := congrArg Int32.toInt hc1
    exact sat_some trivial
  · have thc1 := neq hc1
    refine sat_cal (s_X9_sound t_knots t_bags t_beside t_bag t_up (by omega) (by omega) h_t_beside h_t_bag h_t_up) fun u1 hu1 => ?_
    refine sat_ite (fun hc2 => ?_) (fun hc2 => ?_)
    · have thc2 := congrArg Int32.toInt hc2
      refine sat_bnd fun x1_2 e3 => ?_
      have te3 := congrArg Int32.toInt e3
      have hNN := NN_i
      exact l_X9_separator_19 t_knots t_bags t_beside t_bag t_up (by omega) (by omega) h_t_beside h_t_bag h_t_up NN x1_2 (by omega) (by omega)
    · have thc2 := neq hc2
      exact sat_some trivial
theorem l_X9_states_73 (a1 : Int32) : ∀ (n : Nat) (x2 : Int32) (x3 : Int32) (t_q : Int32) (t_factor : Nat → Int32) (t_pairFactor : Nat → Int32) (t_forbidden : Nat → Int32) (t_mayNot : Nat → Int32), (0 ≤ x3.toInt ∧ x3.toInt ≤ 14) → (1 ≤ t_q.toInt ∧ t_q.toInt ≤ 4) → 14 - x3.toInt < (n : Int) → Sat (L_X9_states_73 a1 n x2 x3 t_q t_factor t_pairFactor t_forbidden t_mayNot) (fun r => (1 ≤ (r.2.1).toInt ∧ (r.2.1).toInt ≤ 4) ∧ True) := by
  intro n
  induction n with
  | zero => intro x2 x3 t_q t_factor t_pairFactor t_forbidden t_mayNot h_x3 h_t_q hM; exfalso; omega
  | succ n ih =>
    intro x2 x3 t_q t_factor t_pairFactor t_forbidden t_mayNot h_x3 h_t_q hM
    rw [L_X9_states_73]
    have l14 : (14 : Int32).toInt = 14 := rfl
    have l1 : (1 : Int32).toInt = 1 := rfl
    refine sat_ite (fun hc1 => ?_) (fun hc1 => ?_)
    · have thc1 := ple hc1
      exact sat_some ⟨(by (try dsimp only); omega), trivial⟩
    · have thc1 := nle hc1
      refine sat_stI (okI_of (by omega)) fun t_forbidden_6 e2 => ?_
      refine sat_bnd fun x3_7 e3 => ?_
      try (have k4 : (x3 + (1 : Int32)).toInt = x3.toInt + (1 : Int32).toInt := ti_add (by omega) (by omega))
      have te3 := congrArg Int32.toInt e3
      exact ih x2 x3_7 t_q t_factor t_pairFactor t_forbidden_6 t_mayNot (by omega) (by omega) (by omega)
theorem l_X9_states_45 (a1 : Int32) : ∀ (n : Nat) (x2 : Int32) (x3 : Int32) (t_q : Int32) (t_factor : Nat → Int32) (t_pairFactor : Nat → Int32) (t_forbidden : Nat → Int32) (t_mayNot : Nat → Int32), (0 ≤ x3.toInt ∧ x3.toInt ≤ 16) → (1 ≤ t_q.toInt ∧ t_q.toInt ≤ 4) → 16 - x3.toInt < (n : Int) → Sat (L_X9_states_45 a1 n x2 x3 t_q t_factor t_pairFactor t_forbidden t_mayNot) (fun r => (1 ≤ (r.2.1).toInt ∧ (r.2.1).toInt ≤ 4) ∧ True) := by
  intro n
  induction n with
  | zero => intro x2 x3 t_q t_factor t_pairFactor t_forbidden t_mayNot h_x3 h_t_q hM; exfalso; omega
  | succ n ih =>
    intro x2 x3 t_q t_factor t_pairFactor t_forbidden t_mayNot h_x3 h_t_q hM
    rw [L_X9_states_45]
    have l16 : (16 : Int32).toInt = 16 := rfl
    have l0 : (0 : Int32).toInt = 0 := rfl
    have l1 : (1 : Int32).toInt = 1 := rfl
    refine sat_ite (fun hc1 => ?_) (fun hc1 => ?_)
    · have thc1 := ple hc1
      refine sat_bnd fun x3_5 e2 => ?_
      have te2 := congrArg Int32.toInt e2
      have hNN := NN_i
      exact l_X9_states_73 a1 NN x2 x3_5 t_q t_factor t_pairFactor t_forbidden t_mayNot (by omega) (by omega) (by omega)
    · have thc1 := nle hc1
      refine sat_stI (okI_of (by omega)) fun t_pairFactor_8 e3 => ?_
      refine sat_stZ (okI_of (by omega)) fun t_mayNot_9 e4 => ?_
      refine sat_bnd fun x3_10 e5 => ?_
      try (have k6 : (x3 + (1 : Int32)).toInt = x3.toInt + (1 : Int32).toInt := ti_add (by omega) (by omega))
      have te5 := congrArg Int32.toInt e5
      exact ih x2 x3_10 t_q t_factor t_pairFactor_8 t_forbidden t_mayNot_9 (by omega) (by omega) (by omega)
theorem l_X9_states_25 (a1 : Int32) : ∀ (n : Nat) (x2 : Int32) (x3 : Int32) (t_q : Int32) (t_factor : Nat → Int32) (t_pairFactor : Nat → Int32) (t_forbidden : Nat → Int32) (t_mayNot : Nat → Int32), (0 ≤ x3.toInt ∧ x3.toInt ≤ 4) → (1 ≤ t_q.toInt ∧ t_q.toInt ≤ 4) → 4 - x3.toInt < (n : Int) → Sat (L_X9_states_25 a1 n x2 x3 t_q t_factor t_pairFactor t_forbidden t_mayNot) (fun r => (1 ≤ (r.2.1).toInt ∧ (r.2.1).toInt ≤ 4) ∧ True) := by
  intro n
  induction n with
  | zero => intro x2 x3 t_q t_factor t_pairFactor t_forbidden t_mayNot h_x3 h_t_q hM; exfalso; omega
  | succ n ih =>
    intro x2 x3 t_q t_factor t_pairFactor t_forbidden t_mayNot h_x3 h_t_q hM
    rw [L_X9_states_25]
    have l4 : (4 : Int32).toInt = 4 := rfl
    have l0 : (0 : Int32).toInt = 0 := rfl
    have l1 : (1 : Int32).toInt = 1 := rfl
    refine sat_ite (fun hc1 => ?_) (fun hc1 => ?_)
    · have thc1 := ple hc1
      refine sat_bnd fun x3_4 e2 => ?_
      have te2 := congrArg Int32.toInt e2
      have hNN := NN_i
      exact l_X9_states_45 a1 NN x2 x3_4 t_q t_factor t_pairFactor t_forbidden t_mayNot (by omega) (by omega) (by omega)
    · have thc1 := nle hc1
      refine sat_stI (okI_of (by omega)) fun t_factor_11 e3 => ?_
      refine sat_bnd fun x3_12 e4 => ?_
      try (have k5 : (x3 + (1 : Int32)).toInt = x3.toInt + (1 : Int32).toInt := ti_add (by omega) (by omega))
      have te4 := congrArg Int32.toInt e4
      exact ih x2 x3_12 t_q t_factor_11 t_pairFactor t_forbidden t_mayNot (by omega) (by omega) (by omega)
theorem s_X9_states (a1 : Int32) (t_q : Int32) (t_factor : Nat → Int32) (t_pairFactor : Nat → Int32) (t_forbidden : Nat → Int32) (t_mayNot : Nat → Int32) (h_t_q : 1 ≤ t_q.toInt ∧ t_q.toInt ≤ 4) : Sat (f_X9_states a1 t_q t_factor t_pairFactor t_forbidden t_mayNot) (fun r => (1 ≤ (r.2.1).toInt ∧ (r.2.1).toInt ≤ 4) ∧ True) := by
  unfold f_X9_states
  have l1 : (1 : Int32).toInt = 1 := rfl
  have l4 : (4 : Int32).toInt = 4 := rfl
  have l0 : (0 : Int32).toInt = 0 := rfl
  refine sat_ite (fun hc1 => ?_) (fun hc1 => ?_)
  · have thc1 := plt hc1
    exact sat_some ⟨(by (try dsimp only); omega), trivial⟩
  · have thc1 := nlt hc1
    refine sat_ite (fun hc2 => ?_) (fun hc2 => ?_)
    · have thc2 := ple hc2
      refine sat_bnd fun x2_1 e3 => ?_
      have te3 := congrArg Int32.toInt e3
      refine sat_bnd fun t_q_2 e4 => ?_
      have te4 := congrArg Int32.toInt e4
      refine sat_bnd fun x3_3 e5 => ?_
      have te5 := congrArg Int32.toInt e5
      have hNN := NN_i
      exact l_X9_states_25 a1 NN x2_1 x3_3 t_q_2 t_factor t_pairFactor t_forbidden t_mayNot (by omega) (by omega) (by omega)
    · have thc2 := nle hc2
      exact sat_some ⟨(by (try dsimp only); omega), trivial⟩
theorem s_X9_isFactor (a1 : Int32) : Sat (f_X9_isFactor a1) (fun r => (0 ≤ r.toInt ∧ r.toInt ≤ 1) ∧ True) := by
  unfold f_X9_isFactor
  have lm10 : (-10 : Int32).toInt = -10 := rfl
  have l0 : (0 : Int32).toInt = 0 := rfl
  have l10 : (10 : Int32).toInt = 10 := rfl
  have l1 : (1 : Int32).toInt = 1 := rfl
  refine sat_ite (fun hc1 => ?_) (fun hc1 => ?_)
  · have thc1 := plt hc1
    exact sat_some ⟨(by omega), trivial⟩
  · have thc1 := nlt hc1
    refine sat_ite (fun hc2 => ?_) (fun hc2 => ?_)
    · have thc2 := plt hc2
      exact sat_some ⟨(by omega), trivial⟩
    · have thc2 := nlt hc2
      exact sat_some ⟨(by omega), trivial⟩
theorem s_X9_isState (a1 : Int32) (t_q : Int32) (h_t_q : 1 ≤ t_q.toInt ∧ t_q.toInt ≤ 4) : Sat (f_X9_isState a1 t_q) (fun r => ((r.toInt = 0 ∨ (0 ≤ a1.toInt ∧ a1.toInt < t_q.toInt)) ∧ 0 ≤ r.toInt ∧ r.toInt ≤ 1) ∧ True) := by
  unfold f_X9_isState
  have l0 : (0 : Int32).toInt = 0 := rfl
  have l1 : (1 : Int32).toInt = 1 := rfl
  refine sat_ite (fun hc1 => ?_) (fun hc1 => ?_)
  · have thc1 := plt hc1
    exact sat_some ⟨(by omega), trivial⟩
  · have thc1 := nlt hc1
    refine sat_ite (fun hc2 => ?_) (fun hc2 => ?_)
    · have thc2 := ple hc2
      exact sat_some ⟨(by omega), trivial⟩
    · have thc2 := nle hc2
      exact sat_some ⟨(by omega), trivial⟩
theorem s_X9_factor (a1 : Int32) (a2 : Int32) (t_q : Int32) (t_factor : Nat → Int32) (h_t_q : 1 ≤ t_q.toInt ∧ t_q.toInt ≤ 4) : Sat (f_X9_factor a1 a2 t_q t_factor) (fun r => True) := by
  unfold f_X9_factor
  have l0 : (0 : Int32).toInt = 0 := rfl
  have l100 : (100 : Int32).toInt = 100 := rfl
  refine sat_cal (s_X9_isState a1 t_q (by omega)) fun u1 hu1 => ?_
  obtain ⟨hu1_0, -⟩ := hu1
  refine sat_ite (fun hc1 => ?_) (fun hc1 => ?_)
  · have thc1 := congrArg Int32.toInt hc1
    exact sat_some trivial
  · have thc1 := neq hc1
    refine sat_cal (s_X9_isFactor a2) fun u2 hu2 => ?_
    obtain ⟨hu2_0, -⟩ := hu2
    refine sat_ite (fun hc2 => ?_) (fun hc2 => ?_)
    · have thc2 := congrArg Int32.toInt hc2
      exact sat_some trivial
    · have thc2 := neq hc2
      refine sat_ldA (okI_of (by omega)) fun v3 e3 => ?_
      refine sat_bnd fun x3_4 e4 => ?_
      try (have k5 : (v3 + (100 : Int32)).toInt = v3.toInt + (100 : Int32).toInt := ti_add (by omega) (by omega))
      have te4 := congrArg Int32.toInt e4
      refine sat_stI (okI_of (by omega)) fun t_factor_5 e6 => ?_
      exact sat_some trivial
theorem j_X9_pair_108  : ∀ (a1 : Int32) (a2 : Int32) (a3 : Int32) (a4 : Int32) (t_q : Int32) (x5 : Int32) (s0 : Int32) (s1 : Int32) (t_pairFactor : Nat → Int32) (t_mayNot : Nat → Int32), (0 ≤ a1.toInt ∧ a1.toInt ≤ 3) → (0 ≤ a2.toInt ∧ a2.toInt ≤ 3) → (1 ≤ t_q.toInt ∧ t_q.toInt ≤ 4) → (0 ≤ s1.toInt ∧ s1.toInt ≤ 15) → Sat (J_X9_pair_108 a1 a2 a3 a4 t_q x5 s0 s1 t_pairFactor t_mayNot) (fun r => True) := by
  intro a1 a2 a3 a4 t_q x5 s0 s1 t_pairFactor t_mayNot h_a1 h_a2 h_t_q h_s1
  unfold J_X9_pair_108
  have l4 : (4 : Int32).toInt = 4 := rfl
  refine sat_stZ (okI_of (by omega)) fun t_mayNot_8 e1 => ?_
  try (have k3 : ((4 : Int32) * a1).toInt = 4 * a1.toInt := ti_cmul rfl (by omega))
  try (have k4 : (((4 : Int32) * a1) + a2).toInt = ((4 : Int32) * a1).toInt + a2.toInt := ti_add (by omega) (by omega))
  refine sat_stI (okI_of (by omega)) fun t_pairFactor_9 e2 => ?_
  try (have k6 : ((4 : Int32) * a2).toInt = 4 * a2.toInt := ti_cmul rfl (by omega))
  try (have k7 : (((4 : Int32) * a2) + a1).toInt = ((4 : Int32) * a2).toInt + a1.toInt := ti_add (by omega) (by omega))
  refine sat_stI (okI_of (by omega)) fun t_pairFactor_10 e5 => ?_
  exact sat_some trivial
theorem j_X9_pair_89  : ∀ (a1 : Int32) (a2 : Int32) (a3 : Int32) (a4 : Int32) (t_q : Int32) (x5 : Int32) (s0 : Int32) (s1 : Int32) (t_pairFactor : Nat → Int32) (t_mayNot : Nat → Int32), (0 ≤ a1.toInt ∧ a1.toInt ≤ 3) → (0 ≤ a2.toInt ∧ a2.toInt ≤ 3) → (1 ≤ t_q.toInt ∧ t_q.toInt ≤ 4) → (0 ≤ s1.toInt ∧ s1.toInt ≤ 15) → Sat (J_X9_pair_89 a1 a2 a3 a4 t_q x5 s0 s1 t_pairFactor t_mayNot) (fun r => True) := by
  intro a1 a2 a3 a4 t_q x5 s0 s1 t_pairFactor t_mayNot h_a1 h_a2 h_t_q h_s1
  unfold J_X9_pair_89
  have l0 : (0 : Int32).toInt = 0 := rfl
  have l4 : (4 : Int32).toInt = 4 := rfl
  refine sat_stZ (okI_of (by omega)) fun t_mayNot_7 e1 => ?_
  refine sat_ite (fun hc2 => ?_) (fun hc2 => ?_)
  · have thc2 := congrArg Int32.toInt hc2
    try (have k3 : ((4 : Int32) * a2).toInt = 4 * a2.toInt := ti_cmul rfl (by omega))
    try (have k4 : (((4 : Int32) * a2) + a1).toInt = ((4 : Int32) * a2).toInt + a1.toInt := ti_add (by omega) (by omega))
    exact j_X9_pair_108 a1 a2 a3 a4 t_q x5 (1 : Int32) (((4 : Int32) * a2) + a1) t_pairFactor t_mayNot_7 (by omega) (by omega) (by omega) (by omega)
  · have thc2 := neq hc2
    try (have k5 : ((4 : Int32) * a2).toInt = 4 * a2.toInt := ti_cmul rfl (by omega))
    try (have k6 : (((4 : Int32) * a2) + a1).toInt = ((4 : Int32) * a2).toInt + a1.toInt := ti_add (by omega) (by omega))
    exact j_X9_pair_108 a1 a2 a3 a4 t_q x5 (0 : Int32) (((4 : Int32) * a2) + a1) t_pairFactor t_mayNot_7 (by omega) (by omega) (by omega) (by omega)
theorem j_X9_pair_69  : ∀ (a1 : Int32) (a2 : Int32) (a3 : Int32) (a4 : Int32) (t_q : Int32) (s0 : Int32) (t_pairFactor : Nat → Int32) (t_mayNot : Nat → Int32), (0 ≤ a1.toInt ∧ a1.toInt ≤ 3) → (0 ≤ a2.toInt ∧ a2.toInt ≤ 3) → (1 ≤ t_q.toInt ∧ t_q.toInt ≤ 4) → Sat (J_X9_pair_69 a1 a2 a3 a4 t_q s0 t_pairFactor t_mayNot) (fun r => True) := by
  intro a1 a2 a3 a4 t_q s0 t_pairFactor t_mayNot h_a1 h_a2 h_t_q
  unfold J_X9_pair_69
  have l0 : (0 : Int32).toInt = 0 := rfl
  have l4 : (4 : Int32).toInt = 4 := rfl
  refine sat_bnd fun x5_6 e1 => ?_
  have te1 := congrArg Int32.toInt e1
  refine sat_ite (fun hc2 => ?_) (fun hc2 => ?_)
  · have thc2 := congrArg Int32.toInt hc2
    try (have k3 : ((4 : Int32) * a1).toInt = 4 * a1.toInt := ti_cmul rfl (by omega))
    try (have k4 : (((4 : Int32) * a1) + a2).toInt = ((4 : Int32) * a1).toInt + a2.toInt := ti_add (by omega) (by omega))
    exact j_X9_pair_89 a1 a2 a3 a4 t_q x5_6 (1 : Int32) (((4 : Int32) * a1) + a2) t_pairFactor t_mayNot (by omega) (by omega) (by omega) (by omega)
  · have thc2 := neq hc2
    try (have k5 : ((4 : Int32) * a1).toInt = 4 * a1.toInt := ti_cmul rfl (by omega))
    try (have k6 : (((4 : Int32) * a1) + a2).toInt = ((4 : Int32) * a1).toInt + a2.toInt := ti_add (by omega) (by omega))
    exact j_X9_pair_89 a1 a2 a3 a4 t_q x5_6 (0 : Int32) (((4 : Int32) * a1) + a2) t_pairFactor t_mayNot (by omega) (by omega) (by omega) (by omega)
theorem s_X9_pair (a1 : Int32) (a2 : Int32) (a3 : Int32) (a4 : Int32) (t_q : Int32) (t_pairFactor : Nat → Int32) (t_mayNot : Nat → Int32) (h_t_q : 1 ≤ t_q.toInt ∧ t_q.toInt ≤ 4) : Sat (f_X9_pair a1 a2 a3 a4 t_q t_pairFactor t_mayNot) (fun r => True) := by
  unfold f_X9_pair
  have l0 : (0 : Int32).toInt = 0 := rfl
  have l1 : (1 : Int32).toInt = 1 := rfl
  have l4 : (4 : Int32).toInt = 4 := rfl
  refine sat_cal (s_X9_isState a1 t_q (by omega)) fun u1 hu1 => ?_
  obtain ⟨hu1_0, -⟩ := hu1
  refine sat_ite (fun hc1 => ?_) (fun hc1 => ?_)
  · have thc1 := congrArg Int32.toInt hc1
    exact sat_some trivial
  · have thc1 := neq hc1
    refine sat_cal (s_X9_isState a2 t_q (by omega)) fun u2 hu2 => ?_
    obtain ⟨hu2_0, -⟩ := hu2
    refine sat_ite (fun hc2 => ?_) (fun hc2 => ?_)
    · have thc2 := congrArg Int32.toInt hc2
      exact sat_some trivial
    · have thc2 := neq hc2
      refine sat_ite (fun hc3 => ?_) (fun hc3 => ?_)
      · have thc3 := plt hc3
        exact sat_some trivial
      · have thc3 := nlt hc3
        refine sat_ite (fun hc4 => ?_) (fun hc4 => ?_)
        · have thc4 := plt hc4
          exact sat_some trivial
        · have thc4 := nlt hc4
          refine sat_cal (s_X9_isFactor a4) fun u3 hu3 => ?_
          obtain ⟨hu3_0, -⟩ := hu3
          refine sat_ite (fun hc5 => ?_) (fun hc5 => ?_)
          · have thc5 := congrArg Int32.toInt hc5
            exact sat_some trivial
          · have thc5 := neq hc5
            try (have k7 : ((4 : Int32) * a1).toInt = 4 * a1.toInt := ti_cmul rfl (by omega))
            try (have k8 : (((4 : Int32) * a1) + a2).toInt = ((4 : Int32) * a1).toInt + a2.toInt := ti_add (by omega) (by omega))
            refine sat_ldA (okI_of (by omega)) fun v4 e6 => ?_
            refine sat_ite (fun hc9 => ?_) (fun hc9 => ?_)
            · have thc9 := congrArg Int32.toInt hc9
              refine sat_ldA (okI_of (by omega)) fun v5 e10 => ?_
              exact j_X9_pair_69 a1 a2 a3 a4 t_q (v5 + (100 : Int32)) t_pairFactor t_mayNot (by omega) (by omega) (by omega)
            · have thc9 := neq hc9
              exact j_X9_pair_69 a1 a2 a3 a4 t_q (0 : Int32) t_pairFactor t_mayNot (by omega) (by omega) (by omega)
theorem s_X9_forbid (a1 : Int32) (a2 : Int32) (t_knots : Int32) (t_forbidden : Nat → Int32) (h_t_knots : 0 ≤ t_knots.toInt ∧ t_knots.toInt ≤ 14) : Sat (f_X9_forbid a1 a2 t_knots t_forbidden) (fun r => True) := by
  unfold f_X9_forbid
  have l0 : (0 : Int32).toInt = 0 := rfl
  have l15 : (15 : Int32).toInt = 15 := rfl
  refine sat_cal (s_X9_isKnot a1 t_knots (by omega)) fun u1 hu1 => ?_
  obtain ⟨hu1_0, -⟩ := hu1
  refine sat_ite (fun hc1 => ?_) (fun hc1 => ?_)
  · have thc1 := congrArg Int32.toInt hc1
    exact sat_some trivial
  · have thc1 := neq hc1
    refine sat_ite (fun hc2 => ?_) (fun hc2 => ?_)
    · have thc2 := plt hc2
      exact sat_some trivial
    · have thc2 := nlt hc2
      refine sat_ite (fun hc3 => ?_) (fun hc3 => ?_)
      · have thc3 := ple hc3
        refine sat_ldA (okI_of (by omega)) fun v2 e4 => ?_
        refine sat_bnd fun x3_3 e5 => ?_
        have te5 := congrArg Int32.toInt e5
        refine sat_stI (okI_of (by omega)) fun t_forbidden_4 e6 => ?_
        exact sat_some trivial
      · have thc3 := nle hc3
        exact sat_some trivial
theorem l_X9_count_47 (a1 : Int32) (t_knots : Int32) (t_rowed : Int32) (t_bags : Int32) (t_q : Int32) (t_beside : Nat → Int32) (t_bag : Nat → Int32) (t_up : Nat → Int32) (h_t_knots : 0 ≤ t_knots.toInt ∧ t_knots.toInt ≤ 14) (h_t_rowed : 0 ≤ t_rowed.toInt ∧ t_rowed.toInt ≤ 14) (h_t_bags : 0 ≤ t_bags.toInt ∧ t_bags.toInt ≤ 14) (h_t_q : 1 ≤ t_q.toInt ∧ t_q.toInt ≤ 4) (h_t_beside : ∀ i, 0 ≤ (t_beside i).toInt ∧ (t_beside i).toInt ≤ 16383) (h_t_bag : ∀ i, 0 ≤ (t_bag i).toInt ∧ (t_bag i).toInt ≤ 16383) (h_t_up : ∀ i, -1 ≤ (t_up i).toInt ∧ (t_up i).toInt ≤ 13) : ∀ (n : Nat) (x2 : Int32) (x3 : Int32), (0 ≤ x3.toInt ∧ x3.toInt ≤ 14) → 14 - x3.toInt < (n : Int) → Sat (L_X9_count_47 a1 t_knots t_rowed t_bags t_q t_beside t_bag t_up n x2 x3) (fun r => True) := by
  intro n
  induction n with
  | zero => intro x2 x3 h_x3 hM; exfalso; omega
  | succ n ih =>
    intro x2 x3 h_x3 hM
    rw [L_X9_count_47]
    have l1 : (1 : Int32).toInt = 1 := rfl
    refine sat_ite (fun hc1 => ?_) (fun hc1 => ?_)
    · have thc1 := ple hc1
      exact sat_some trivial
    · have thc1 := nle hc1
      refine sat_ldA (okI_of (by omega)) fun v5 e2 => ?_
      have hv5 := ra_get e2 h_t_beside
      refine sat_cal (s_X9_bits v5 (by omega)) fun u6 hu6 => ?_
      obtain ⟨hu6_0, -⟩ := hu6
      refine sat_bnd fun x2_7 e3 => ?_
      try (have k4 : (x2 + u6).toInt = x2.toInt + u6.toInt := ti_add (by omega) (by omega))
      have te3 := congrArg Int32.toInt e3
      refine sat_bnd fun x3_8 e5 => ?_
      try (have k6 : (x3 + (1 : Int32)).toInt = x3.toInt + (1 : Int32).toInt := ti_add (by omega) (by omega))
      have te5 := congrArg Int32.toInt e5
      exact ih x2_7 x3_8 (by omega) (by omega)
theorem s_X9_count (a1 : Int32) (t_knots : Int32) (t_rowed : Int32) (t_bags : Int32) (t_q : Int32) (t_beside : Nat → Int32) (t_bag : Nat → Int32) (t_up : Nat → Int32) (h_t_knots : 0 ≤ t_knots.toInt ∧ t_knots.toInt ≤ 14) (h_t_rowed : 0 ≤ t_rowed.toInt ∧ t_rowed.toInt ≤ 14) (h_t_bags : 0 ≤ t_bags.toInt ∧ t_bags.toInt ≤ 14) (h_t_q : 1 ≤ t_q.toInt ∧ t_q.toInt ≤ 4) (h_t_beside : ∀ i, 0 ≤ (t_beside i).toInt ∧ (t_beside i).toInt ≤ 16383) (h_t_bag : ∀ i, 0 ≤ (t_bag i).toInt ∧ (t_bag i).toInt ≤ 16383) (h_t_up : ∀ i, -1 ≤ (t_up i).toInt ∧ (t_up i).toInt ≤ 13) : Sat (f_X9_count a1 t_knots t_rowed t_bags t_q t_beside t_bag t_up) (fun r => True) := by
  unfold f_X9_count
  have l0 : (0 : Int32).toInt = 0 := rfl
  refine sat_bnd fun x2_1 e1 => ?_
  have te1 := congrArg Int32.toInt e1
  refine sat_ite (fun hc2 => ?_) (fun hc2 => ?_)
  · have thc2 := congrArg Int32.toInt hc2
    exact sat_some trivial
  · have thc2 := neq hc2
    refine sat_ite (fun hc3 => ?_) (fun hc3 => ?_)
    · have thc3 := congrArg Int32.toInt hc3
      refine sat_bnd fun x3_4 e4 => ?_
      have te4 := congrArg Int32.toInt e4
      have hNN := NN_i
      exact l_X9_count_47 a1 t_knots t_rowed t_bags t_q t_beside t_bag t_up (by omega) (by omega) (by omega) (by omega) h_t_beside h_t_bag h_t_up NN x2_1 x3_4 (by omega) (by omega)
    · have thc3 := neq hc3
      refine sat_ite (fun hc5 => ?_) (fun hc5 => ?_)
      · have thc5 := congrArg Int32.toInt hc5
        exact sat_some trivial
      · have thc5 := neq hc5
        refine sat_ite (fun hc6 => ?_) (fun hc6 => ?_)
        · have thc6 := congrArg Int32.toInt hc6
          exact sat_some trivial
        · have thc6 := neq hc6
          refine sat_ite (fun hc7 => ?_) (fun hc7 => ?_)
          · have thc7 := congrArg Int32.toInt hc7
            exact sat_some trivial
          · have thc7 := neq hc7
            refine sat_ite (fun hc8 => ?_) (fun hc8 => ?_)
            · have thc8 := congrArg Int32.toInt hc8
              refine sat_ite (fun hc9 => ?_) (fun hc9 => ?_)
              · have thc9 := ple hc9
                exact sat_some trivial
              · have thc9 := nle hc9
                refine sat_cal (s_X9_sound t_knots t_bags t_beside t_bag t_up (by omega) (by omega) h_t_beside h_t_bag h_t_up) fun u13 hu13 => ?_
                refine sat_ite (fun hc10 => ?_) (fun hc10 => ?_)
                · have thc10 := congrArg Int32.toInt hc10
                  exact sat_some trivial
                · have thc10 := neq hc10
                  exact sat_some trivial
            · have thc8 := neq hc8
              exact sat_some trivial
theorem s_X9_isAsked (t_knots : Int32) (t_bags : Int32) (t_beside : Nat → Int32) (t_bag : Nat → Int32) (t_up : Nat → Int32) (h_t_knots : 0 ≤ t_knots.toInt ∧ t_knots.toInt ≤ 14) (h_t_bags : 0 ≤ t_bags.toInt ∧ t_bags.toInt ≤ 14) (h_t_beside : ∀ i, 0 ≤ (t_beside i).toInt ∧ (t_beside i).toInt ≤ 16383) (h_t_bag : ∀ i, 0 ≤ (t_bag i).toInt ∧ (t_bag i).toInt ≤ 16383) (h_t_up : ∀ i, -1 ≤ (t_up i).toInt ∧ (t_up i).toInt ≤ 13) : Sat (f_X9_isAsked t_knots t_bags t_beside t_bag t_up) (fun r => ((r = 0 ∨ AskOK t_bags t_bag) ∧ 0 ≤ r.toInt ∧ r.toInt ≤ 1) ∧ True) := by
  unfold f_X9_isAsked
  have l0 : (0 : Int32).toInt = 0 := rfl
  have l1 : (1 : Int32).toInt = 1 := rfl
  have l4 : (4 : Int32).toInt = 4 := rfl
  refine sat_ite (fun hc => ?_) (fun hc => ?_)
  · exact sat_some ⟨⟨Or.inl rfl, by omega⟩, trivial⟩
  · have hc := nle hc
    refine sat_cal (s_X9_sound t_knots t_bags t_beside t_bag t_up h_t_knots h_t_bags h_t_beside h_t_bag h_t_up) fun u1 hu1 => ?_
    refine sat_ite (fun hd => ?_) (fun hd => ?_)
    · refine sat_cal (s_X9_width t_bags t_bag h_t_bags h_t_bag) fun u2 hu2 => ?_
      refine sat_ite (fun he => ?_) (fun he => ?_)
      · exact sat_some ⟨⟨Or.inl rfl, by omega⟩, trivial⟩
      · have he := nlt he
        have hw := hu2.1.2.resolve_left (by omega)
        refine sat_some ⟨⟨Or.inr ⟨by omega, fun i hi => ?_⟩, by omega⟩, trivial⟩
        have := hw i hi
        omega
    · exact sat_some ⟨⟨Or.inl rfl, by omega⟩, trivial⟩
theorem l_X9_free_2  : ∀ (n : Nat) (x1 : Int32) (t_fixed : Nat → Int32), (0 ≤ x1.toInt ∧ x1.toInt ≤ 14) → 14 - x1.toInt < (n : Int) → Sat (L_X9_free_2 n x1 t_fixed) (fun r => True) := by
  intro n
  induction n with
  | zero => intro x1 t_fixed h_x1 hM; exfalso; omega
  | succ n ih =>
    intro x1 t_fixed h_x1 hM
    rw [L_X9_free_2]
    have l14 : (14 : Int32).toInt = 14 := rfl
    have l1 : (1 : Int32).toInt = 1 := rfl
    refine sat_ite (fun hc1 => ?_) (fun hc1 => ?_)
    · have thc1 := ple hc1
      exact sat_some trivial
    · have thc1 := nle hc1
      refine sat_stI (okI_of (by omega)) fun t_fixed_2 e2 => ?_
      refine sat_bnd fun x1_3 e3 => ?_
      try (have k4 : (x1 + (1 : Int32)).toInt = x1.toInt + (1 : Int32).toInt := ti_add (by omega) (by omega))
      have te3 := congrArg Int32.toInt e3
      exact ih x1_3 t_fixed_2 (by omega) (by omega)
theorem s_X9_free (t_fixed : Nat → Int32) : Sat (f_X9_free t_fixed) (fun r => True) := by
  unfold f_X9_free
  have l0 : (0 : Int32).toInt = 0 := rfl
  refine sat_bnd fun x1_1 e1 => ?_
  have te1 := congrArg Int32.toInt e1
  have hNN := NN_i
  exact l_X9_free_2 NN x1_1 t_fixed (by omega) (by omega)
theorem s_X9_mayBe (a1 : Int32) (a2 : Int32) (t_q : Int32) (t_forbidden : Nat → Int32) (t_fixed : Nat → Int32) (h_a1 : 0 ≤ a1.toInt ∧ a1.toInt ≤ 13) (h_t_q : 1 ≤ t_q.toInt ∧ t_q.toInt ≤ 4) : Sat (f_X9_mayBe a1 a2 t_q t_forbidden t_fixed) (fun r => (0 ≤ r.toInt ∧ r.toInt ≤ 1) ∧ True) := by
  unfold f_X9_mayBe
  have l0 : (0 : Int32).toInt = 0 := rfl
  have l1 : (1 : Int32).toInt = 1 := rfl
  refine sat_ite (fun hc1 => ?_) (fun hc1 => ?_)
  · have thc1 := ple hc1
    exact sat_some ⟨(by omega), trivial⟩
  · have thc1 := nle hc1
    refine sat_ldA (okI_of (by omega)) fun v1 e2 => ?_
    refine sat_ite (fun hc3 => ?_) (fun hc3 => ?_)
    · have thc3 := congrArg Int32.toInt hc3
      refine sat_ldA (okI_of (by omega)) fun v2 e4 => ?_
      refine sat_ite (fun hc5 => ?_) (fun hc5 => ?_)
      · have thc5 := plt hc5
        exact sat_some ⟨(by omega), trivial⟩
      · have thc5 := nlt hc5
        refine sat_ldA (okI_of (by omega)) fun v3 e6 => ?_
        have tdv3 := congrArg Int32.toInt (e6.trans e4.symm)
        refine sat_ite (fun hc7 => ?_) (fun hc7 => ?_)
        · have thc7 := congrArg Int32.toInt hc7
          exact sat_some ⟨(by omega), trivial⟩
        · have thc7 := neq hc7
          exact sat_some ⟨(by omega), trivial⟩
    · have thc3 := neq hc3
      exact sat_some ⟨(by omega), trivial⟩
theorem l_X9_code_4 (a1 : Int32) (t_knots : Int32) (t_state : Nat → Int32) (h_a1 : 0 ≤ a1.toInt ∧ a1.toInt ≤ 16383) (h_t_knots : 0 ≤ t_knots.toInt ∧ t_knots.toInt ≤ 14) (h_t_state : ∀ i, 0 ≤ (t_state i).toInt ∧ (t_state i).toInt ≤ 3) : ∀ (n : Nat) (x2 : Int32) (x3 : Int32), (0 ≤ x3.toInt ∧ x3.toInt ≤ 14) → (0 ≤ x2.toInt ∧ x2.toInt < ((4 ^ pcU x3.toNatClampNeg a1.toNatClampNeg : Nat) : Int)) → 14 - x3.toInt < (n : Int) → Sat (L_X9_code_4 a1 t_knots t_state n x2 x3) (fun r => (0 ≤ r.toInt ∧ r.toInt < ((4 ^ pcU 14 a1.toNatClampNeg : Nat) : Int)) ∧ True) := by
  intro n
  induction n with
  | zero => intro x2 x3 h_x3 hi0 hM; exfalso; omega
  | succ n ih =>
    intro x2 x3 h_x3 hi0 hM
    rw [L_X9_code_4]
    have l1 : (1 : Int32).toInt = 1 := rfl
    have n3 := tn (x := x3) (by omega)
    obtain ⟨m, hm1, hm2, hm3, hm4⟩ := mk_of h_a1
    obtain ⟨k, hk1, hk2, hk3, hk4⟩ := mk_of h_x3
    have p1 := pow4_k (m := a1.toNatClampNeg) (show x3.toNatClampNeg ≤ 14 by omega)
    have p2 := pow4_le (pcU_le x3.toNatClampNeg a1.toNatClampNeg)
    refine sat_ite (fun hc => ?_) (fun hc => ?_)
    · exact sat_some ⟨by omega, trivial⟩
    · have hc := nle hc
      have p3 := pow4_le (show pcU x3.toNatClampNeg a1.toNatClampNeg ≤ 13 by have := pcU_le x3.toNatClampNeg a1.toNatClampNeg; omega)
      have k2 : (x3 + (1 : Int32)).toInt = x3.toInt + (1 : Int32).toInt := ti_add (by omega) (by omega)
      have n4 := tn (x := x3 + 1) (by omega)
      have ek : (x3 + 1).toNatClampNeg = x3.toNatClampNeg + 1 := by omega
      refine sat_ite (fun hd => ?_) (fun hd => ?_)
      · refine sat_ldA (okI_of (by omega)) fun v4 e4 => ?_
        have hv4 := ra_get e4 h_t_state
        have k5 : ((4 : Int32) * x2).toInt = 4 * x2.toInt := ti_cmul rfl (by omega)
        have k6 : (((4 : Int32) * x2) + v4).toInt = ((4 : Int32) * x2).toInt + v4.toInt := ti_add (by omega) (by omega)
        refine sat_bnd fun x2_5 e5 => ?_
        refine sat_bnd fun x3_6 e6 => ?_
        have te5 := congrArg Int32.toInt e5
        have te6 := congrArg Int32.toInt e6
        rw [hm3, hk3, nx_has1 hm2 (by omega)] at hd
        have p4 : 4 ^ pcU x3_6.toNatClampNeg a1.toNatClampNeg = 4 * 4 ^ pcU x3.toNatClampNeg a1.toNatClampNeg := by
          rw [e6, ek, hm4, hk4]
          show 4 ^ (pcU k m + (if m.testBit k then 1 else 0)) = _
          rw [hd, if_pos rfl, Nat.pow_succ]; omega
        exact ih x2_5 x3_6 (by omega) ⟨by omega, by omega⟩ (by omega)
      · refine sat_bnd fun x3_3 e6 => ?_
        have te6 := congrArg Int32.toInt e6
        rw [hm3, hk3, nx_has1 hm2 (by omega)] at hd
        have p4 : pcU x3_3.toNatClampNeg a1.toNatClampNeg = pcU x3.toNatClampNeg a1.toNatClampNeg := by
          rw [e6, ek, hm4, hk4]
          show pcU k m + (if m.testBit k then 1 else 0) = _
          rw [if_neg hd]; rfl
        exact ih x2 x3_3 (by omega) (by rw [p4]; exact hi0) (by omega)
theorem s_X9_code (a1 : Int32) (t_knots : Int32) (t_state : Nat → Int32) (h_a1 : 0 ≤ a1.toInt ∧ a1.toInt ≤ 16383) (h_t_knots : 0 ≤ t_knots.toInt ∧ t_knots.toInt ≤ 14) (h_t_state : ∀ i, 0 ≤ (t_state i).toInt ∧ (t_state i).toInt ≤ 3) : Sat (f_X9_code a1 t_knots t_state) (fun r => (0 ≤ r.toInt ∧ r.toInt < ((4 ^ pcU 14 a1.toNatClampNeg : Nat) : Int)) ∧ True) := by
  unfold f_X9_code
  have l0 : (0 : Int32).toInt = 0 := rfl
  refine sat_bnd fun x2_1 e1 => ?_
  refine sat_bnd fun x3_2 e2 => ?_
  have te1 := congrArg Int32.toInt e1
  have te2 := congrArg Int32.toInt e2
  have hNN := NN_i
  have e0 : x3_2.toNatClampNeg = 0 := by rw [e2]; rfl
  exact l_X9_code_4 a1 t_knots t_state h_a1 h_t_knots h_t_state NN x2_1 x3_2 (by omega) (by rw [e0]; exact ⟨by omega, by show _ < ((4 ^ 0 : Nat) : Int); omega⟩) (by omega)
theorem l_X9_take_103 (a1 : Int32) (a2 : Int32) (t_knots : Int32) (t_q : Int32) (t_beside : Nat → Int32) (t_bag : Nat → Int32) (t_forbidden : Nat → Int32) (t_mayNot : Nat → Int32) (t_fixed : Nat → Int32) (k_86 : Int32 → Int32 → (Nat → Int32) → Option (Int32 × (Nat → Int32))) (g_86 : Int) (h_a1 : 0 ≤ a1.toInt ∧ a1.toInt ≤ 13) (h_a2 : 0 ≤ a2.toInt ∧ a2.toInt ≤ 1023) (h_t_knots : 0 ≤ t_knots.toInt ∧ t_knots.toInt ≤ 14) (h_t_q : 1 ≤ t_q.toInt ∧ t_q.toInt ≤ 4) (h_t_beside : ∀ i, 0 ≤ (t_beside i).toInt ∧ (t_beside i).toInt ≤ 16383) (h_t_bag : ∀ i, 0 ≤ (t_bag i).toInt ∧ (t_bag i).toInt ≤ 16383) (hk_86 : ∀ (x4 : Int32) (x5 : Int32) (t_state : Nat → Int32), (0 ≤ x4.toInt ∧ x4.toInt ≤ 1) → (0 ≤ x5.toInt ∧ x5.toInt ≤ 14) → (∀ i, 0 ≤ (t_state i).toInt ∧ (t_state i).toInt ≤ 3) → (14 - x5.toInt < g_86) → Sat (k_86 x4 x5 t_state) (fun r => (0 ≤ (r.1).toInt ∧ (r.1).toInt ≤ 1) ∧ (∀ i, 0 ≤ ((r.2) i).toInt ∧ ((r.2) i).toInt ≤ 3) ∧ True)) : ∀ (n : Nat) (x4 : Int32) (x5 : Int32) (x6 : Int32) (t_state : Nat → Int32), (0 ≤ x4.toInt ∧ x4.toInt ≤ 1) → (0 ≤ x5.toInt ∧ x5.toInt ≤ 13) → (0 ≤ x6.toInt ∧ x6.toInt ≤ 13) → (∀ i, 0 ≤ (t_state i).toInt ∧ (t_state i).toInt ≤ 3) → (14 - x5.toInt ≤ g_86) → 13 - x6.toInt < (n : Int) → Sat (L_X9_take_103 a1 a2 t_knots t_q t_beside t_bag t_forbidden t_mayNot t_fixed k_86 n x4 x5 x6 t_state) (fun r => (0 ≤ (r.1).toInt ∧ (r.1).toInt ≤ 1) ∧ (∀ i, 0 ≤ ((r.2) i).toInt ∧ ((r.2) i).toInt ≤ 3) ∧ True) := by
  intro n
  induction n with
  | zero => intro x4 x5 x6 t_state h_x4 h_x5 h_x6 h_t_state hg_86 hM; exfalso; omega
  | succ n ih =>
    intro x4 x5 x6 t_state h_x4 h_x5 h_x6 h_t_state hg_86 hM
    rw [L_X9_take_103]
    have l1 : (1 : Int32).toInt = 1 := rfl
    have l0 : (0 : Int32).toInt = 0 := rfl
    have l4 : (4 : Int32).toInt = 4 := rfl
    refine sat_ite (fun hc1 => ?_) (fun hc1 => ?_)
    · have thc1 := ple hc1
      refine sat_bnd fun x5_6 e2 => ?_
      try (have k3 : (x5 + (1 : Int32)).toInt = x5.toInt + (1 : Int32).toInt := ti_add (by omega) (by omega))
      have te2 := congrArg Int32.toInt e2
      exact hk_86 x4 x5_6 t_state (by omega) (by omega) h_t_state (by omega)
    · have thc1 := nle hc1
      refine sat_ite (fun hc4 => ?_) (fun hc4 => ?_)
      · have thc4 := congrArg Int32.toInt hc4
        refine sat_bnd fun x5_7 e5 => ?_
        try (have k6 : (x5 + (1 : Int32)).toInt = x5.toInt + (1 : Int32).toInt := ti_add (by omega) (by omega))
        have te5 := congrArg Int32.toInt e5
        exact hk_86 x4 x5_7 t_state (by omega) (by omega) h_t_state (by omega)
      · have thc4 := neq hc4
        refine sat_ldA (okI_of (by omega)) fun v8 e7 => ?_
        have hv8 := ra_get e7 h_t_bag
        refine sat_ite (fun hc8 => ?_) (fun hc8 => ?_)
        · have thc8 := congrArg Int32.toInt hc8
          refine sat_ldA (okI_of (by omega)) fun v10 e9 => ?_
          have tdv10 := congrArg Int32.toInt (e9.trans e7.symm)
          have hv10 := ra_get e9 h_t_bag
          refine sat_ite (fun hc10 => ?_) (fun hc10 => ?_)
          · have thc10 := congrArg Int32.toInt hc10
            refine sat_cal (s_X9_isEdge x5 x6 t_knots t_beside (by omega) h_t_beside) fun u12 hu12 => ?_
            obtain ⟨hu12_0, -⟩ := hu12
            refine sat_ite (fun hc11 => ?_) (fun hc11 => ?_)
            · have thc11 := congrArg Int32.toInt hc11
              refine sat_bnd fun x6_13 e12 => ?_
              try (have k13 : (x6 + (1 : Int32)).toInt = x6.toInt + (1 : Int32).toInt := ti_add (by omega) (by omega))
              have te12 := congrArg Int32.toInt e12
              exact ih x4 x5 x6_13 t_state (by omega) (by omega) (by omega) h_t_state (by omega) (by omega)
            · have thc11 := neq hc11
              refine sat_ldA (okI_of (by omega)) fun v14 e14 => ?_
              have hv14 := ra_get e14 h_t_state
              refine sat_ldA (okI_of (by omega)) fun v15 e15 => ?_
              have hv15 := ra_get e15 h_t_state
              try (have k17 : ((4 : Int32) * v14).toInt = 4 * v14.toInt := ti_cmul rfl (by omega))
              try (have k18 : (((4 : Int32) * v14) + v15).toInt = ((4 : Int32) * v14).toInt + v15.toInt := ti_add (by omega) (by omega))
              refine sat_ldA (okI_of (by omega)) fun v16 e16 => ?_
              refine sat_ite (fun hc19 => ?_) (fun hc19 => ?_)
              · have thc19 := congrArg Int32.toInt hc19
                refine sat_bnd fun x4_19 e20 => ?_
                have te20 := congrArg Int32.toInt e20
                refine sat_bnd fun x6_20 e21 => ?_
                try (have k22 : (x6 + (1 : Int32)).toInt = x6.toInt + (1 : Int32).toInt := ti_add (by omega) (by omega))
                have te21 := congrArg Int32.toInt e21
                exact ih x4_19 x5 x6_20 t_state (by omega) (by omega) (by omega) h_t_state (by omega) (by omega)
              · have thc19 := neq hc19
                refine sat_bnd fun x4_17 e23 => ?_
                have te23 := congrArg Int32.toInt e23
                refine sat_bnd fun x6_18 e24 => ?_
                try (have k25 : (x6 + (1 : Int32)).toInt = x6.toInt + (1 : Int32).toInt := ti_add (by omega) (by omega))
                have te24 := congrArg Int32.toInt e24
                exact ih x4_17 x5 x6_18 t_state (by omega) (by omega) (by omega) h_t_state (by omega) (by omega)
          · have thc10 := neq hc10
            refine sat_bnd fun x6_11 e26 => ?_
            try (have k27 : (x6 + (1 : Int32)).toInt = x6.toInt + (1 : Int32).toInt := ti_add (by omega) (by omega))
            have te26 := congrArg Int32.toInt e26
            exact ih x4 x5 x6_11 t_state (by omega) (by omega) (by omega) h_t_state (by omega) (by omega)
        · have thc8 := neq hc8
          refine sat_bnd fun x6_9 e28 => ?_
          try (have k29 : (x6 + (1 : Int32)).toInt = x6.toInt + (1 : Int32).toInt := ti_add (by omega) (by omega))
          have te28 := congrArg Int32.toInt e28
          exact ih x4 x5 x6_9 t_state (by omega) (by omega) (by omega) h_t_state (by omega) (by omega)
theorem l_X9_take_86 (a1 : Int32) (a2 : Int32) (t_knots : Int32) (t_q : Int32) (t_beside : Nat → Int32) (t_bag : Nat → Int32) (t_forbidden : Nat → Int32) (t_mayNot : Nat → Int32) (t_fixed : Nat → Int32) (h_a1 : 0 ≤ a1.toInt ∧ a1.toInt ≤ 13) (h_a2 : 0 ≤ a2.toInt ∧ a2.toInt ≤ 1023) (h_t_knots : 0 ≤ t_knots.toInt ∧ t_knots.toInt ≤ 14) (h_t_q : 1 ≤ t_q.toInt ∧ t_q.toInt ≤ 4) (h_t_beside : ∀ i, 0 ≤ (t_beside i).toInt ∧ (t_beside i).toInt ≤ 16383) (h_t_bag : ∀ i, 0 ≤ (t_bag i).toInt ∧ (t_bag i).toInt ≤ 16383) : ∀ (n : Nat) (x4 : Int32) (x5 : Int32) (t_state : Nat → Int32), (0 ≤ x4.toInt ∧ x4.toInt ≤ 1) → (0 ≤ x5.toInt ∧ x5.toInt ≤ 14) → (∀ i, 0 ≤ (t_state i).toInt ∧ (t_state i).toInt ≤ 3) → 14 - x5.toInt < (n : Int) → Sat (L_X9_take_86 a1 a2 t_knots t_q t_beside t_bag t_forbidden t_mayNot t_fixed n x4 x5 t_state) (fun r => (0 ≤ (r.1).toInt ∧ (r.1).toInt ≤ 1) ∧ (∀ i, 0 ≤ ((r.2) i).toInt ∧ ((r.2) i).toInt ≤ 3) ∧ True) := by
  intro n
  induction n with
  | zero => intro x4 x5 t_state h_x4 h_x5 h_t_state hM; exfalso; omega
  | succ n ih =>
    intro x4 x5 t_state h_x4 h_x5 h_t_state hM
    rw [L_X9_take_86]
    have l0 : (0 : Int32).toInt = 0 := rfl
    refine sat_ite (fun hc1 => ?_) (fun hc1 => ?_)
    · have thc1 := ple hc1
      refine sat_chk (b01 (by omega)) ?_
      exact sat_some ⟨(by (try dsimp only); omega), h_t_state, trivial⟩
    · have thc1 := nle hc1
      refine sat_ite (fun hc2 => ?_) (fun hc2 => ?_)
      · have thc2 := congrArg Int32.toInt hc2
        refine sat_chk (b01 (by omega)) ?_
        exact sat_some ⟨(by (try dsimp only); omega), h_t_state, trivial⟩
      · have thc2 := neq hc2
        refine sat_bnd fun x6_5 e3 => ?_
        have te3 := congrArg Int32.toInt e3
        have hNN := NN_i
        exact l_X9_take_103 a1 a2 t_knots t_q t_beside t_bag t_forbidden t_mayNot t_fixed (fun y0 y1 y2 => L_X9_take_86 a1 a2 t_knots t_q t_beside t_bag t_forbidden t_mayNot t_fixed n y0 y1 y2) (n : Int) (by omega) (by omega) (by omega) (by omega) h_t_beside h_t_bag (fun y0 y1 y2 z0 z1 z2 zm => ih y0 y1 y2 z0 z1 z2 zm) NN x4 x5 x6_5 t_state (by omega) (by omega) (by omega) h_t_state (by omega) (by omega)
theorem l_X9_take_13 (a1 : Int32) (a2 : Int32) (t_knots : Int32) (t_q : Int32) (t_beside : Nat → Int32) (t_bag : Nat → Int32) (t_forbidden : Nat → Int32) (t_mayNot : Nat → Int32) (t_fixed : Nat → Int32) (h_a1 : 0 ≤ a1.toInt ∧ a1.toInt ≤ 13) (h_a2 : 0 ≤ a2.toInt ∧ a2.toInt ≤ 1023) (h_t_knots : 0 ≤ t_knots.toInt ∧ t_knots.toInt ≤ 14) (h_t_q : 1 ≤ t_q.toInt ∧ t_q.toInt ≤ 4) (h_t_beside : ∀ i, 0 ≤ (t_beside i).toInt ∧ (t_beside i).toInt ≤ 16383) (h_t_bag : ∀ i, 0 ≤ (t_bag i).toInt ∧ (t_bag i).toInt ≤ 16383) : ∀ (n : Nat) (x3 : Int32) (x4 : Int32) (x5 : Int32) (t_state : Nat → Int32), (0 ≤ x3.toInt ∧ x3.toInt ≤ 1023) → (0 ≤ x4.toInt ∧ x4.toInt ≤ 1) → (-1 ≤ x5.toInt ∧ x5.toInt ≤ 13) → (∀ i, 0 ≤ (t_state i).toInt ∧ (t_state i).toInt ≤ 3) → x5.toInt - -1 < (n : Int) → Sat (L_X9_take_13 a1 a2 t_knots t_q t_beside t_bag t_forbidden t_mayNot t_fixed n x3 x4 x5 t_state) (fun r => (0 ≤ (r.1).toInt ∧ (r.1).toInt ≤ 1) ∧ (∀ i, 0 ≤ ((r.2) i).toInt ∧ ((r.2) i).toInt ≤ 3) ∧ True) := by
  intro n
  induction n with
  | zero => intro x3 x4 x5 t_state h_x3 h_x4 h_x5 h_t_state hM; exfalso; omega
  | succ n ih =>
    intro x3 x4 x5 t_state h_x3 h_x4 h_x5 h_t_state hM
    rw [L_X9_take_13]
    have l0 : (0 : Int32).toInt = 0 := rfl
    have l4 : (4 : Int32).toInt = 4 := rfl
    have l1 : (1 : Int32).toInt = 1 := rfl
    refine sat_ite (fun hc1 => ?_) (fun hc1 => ?_)
    · have thc1 := plt hc1
      refine sat_bnd fun x5_4 e2 => ?_
      have te2 := congrArg Int32.toInt e2
      have hNN := NN_i
      exact l_X9_take_86 a1 a2 t_knots t_q t_beside t_bag t_forbidden t_mayNot t_fixed (by omega) (by omega) (by omega) (by omega) h_t_beside h_t_bag NN x4 x5_4 t_state (by omega) (by omega) h_t_state (by omega)
    · have thc1 := nlt hc1
      refine sat_ldA (okI_of (by omega)) fun v21 e3 => ?_
      have hv21 := ra_get e3 h_t_bag
      refine sat_ite (fun hc4 => ?_) (fun hc4 => ?_)
      · have thc4 := congrArg Int32.toInt hc4
        refine sat_bnd fun x5_32 e5 => ?_
        have te5 : x5_32.toInt = x5.toInt - 1 := by rw [e5]; exact ti_dec (by omega)
        clear e5
        exact ih x3 x4 x5_32 t_state (by omega) (by omega) (by omega) h_t_state (by omega)
      · have thc4 := neq hc4
        refine sat_stI (okI_of (by omega)) fun t_state_22 e6 => ?_
        try (have k7 : ((x3 / (4 : Int32)) * (4 : Int32)).toInt = (x3 / (4 : Int32)).toInt * 4 := ti_mulc rfl (by omega))
        try (have k8 : (x3 - (x3 / (4 : Int32) * (4 : Int32))).toInt = x3.toInt - (x3 / (4 : Int32) * (4 : Int32)).toInt := ti_sub (by omega) (by omega))
        have h_t_state_22 := ra_upd e6 h_t_state (rem4_rg (by omega))
        refine sat_bnd fun x3_23 e9 => ?_
        have te9 := div4_rg e9 (by omega)
        refine sat_ite (fun hc10 => ?_) (fun hc10 => ?_)
        · have thc10 := congrArg Int32.toInt hc10
          refine sat_bnd fun x4_24 e11 => ?_
          have te11 := congrArg Int32.toInt e11
          refine sat_bnd fun x5_25 e12 => ?_
          have te12 : x5_25.toInt = x5.toInt - 1 := by rw [e12]; exact ti_dec (by omega)
          clear e12
          exact ih x3_23 x4_24 x5_25 t_state_22 (by omega) (by omega) (by omega) h_t_state_22 (by omega)
        · have thc10 := neq hc10
          refine sat_ldA (okI_of (by omega)) fun v26 e13 => ?_
          have hv26 := ra_get e13 h_t_state_22
          refine sat_cal (s_X9_mayBe x5 v26 t_q t_forbidden t_fixed (by omega) (by omega)) fun u27 hu27 => ?_
          obtain ⟨hu27_0, -⟩ := hu27
          refine sat_ite (fun hc14 => ?_) (fun hc14 => ?_)
          · have thc14 := congrArg Int32.toInt hc14
            refine sat_bnd fun x4_28 e15 => ?_
            have te15 := congrArg Int32.toInt e15
            refine sat_bnd fun x5_29 e16 => ?_
            have te16 : x5_29.toInt = x5.toInt - 1 := by rw [e16]; exact ti_dec (by omega)
            clear e16
            exact ih x3_23 x4_28 x5_29 t_state_22 (by omega) (by omega) (by omega) h_t_state_22 (by omega)
          · have thc14 := neq hc14
            refine sat_bnd fun x4_30 e17 => ?_
            have te17 := congrArg Int32.toInt e17
            refine sat_bnd fun x5_31 e18 => ?_
            have te18 : x5_31.toInt = x5.toInt - 1 := by rw [e18]; exact ti_dec (by omega)
            clear e18
            exact ih x3_23 x4_30 x5_31 t_state_22 (by omega) (by omega) (by omega) h_t_state_22 (by omega)
theorem s_X9_take (a1 : Int32) (a2 : Int32) (t_knots : Int32) (t_q : Int32) (t_beside : Nat → Int32) (t_bag : Nat → Int32) (t_forbidden : Nat → Int32) (t_mayNot : Nat → Int32) (t_fixed : Nat → Int32) (t_state : Nat → Int32) (h_a1 : 0 ≤ a1.toInt ∧ a1.toInt ≤ 13) (h_a2 : 0 ≤ a2.toInt ∧ a2.toInt ≤ 1023) (h_t_knots : 0 ≤ t_knots.toInt ∧ t_knots.toInt ≤ 14) (h_t_q : 1 ≤ t_q.toInt ∧ t_q.toInt ≤ 4) (h_t_beside : ∀ i, 0 ≤ (t_beside i).toInt ∧ (t_beside i).toInt ≤ 16383) (h_t_bag : ∀ i, 0 ≤ (t_bag i).toInt ∧ (t_bag i).toInt ≤ 16383) (h_t_state : ∀ i, 0 ≤ (t_state i).toInt ∧ (t_state i).toInt ≤ 3) : Sat (f_X9_take a1 a2 t_knots t_q t_beside t_bag t_forbidden t_mayNot t_fixed t_state) (fun r => (0 ≤ (r.1).toInt ∧ (r.1).toInt ≤ 1) ∧ (∀ i, 0 ≤ ((r.2) i).toInt ∧ ((r.2) i).toInt ≤ 3) ∧ True) := by
  unfold f_X9_take
  have l1 : (1 : Int32).toInt = 1 := rfl
  refine sat_bnd fun x3_1 e1 => ?_
  have te1 := congrArg Int32.toInt e1
  refine sat_bnd fun x4_2 e2 => ?_
  have te2 := congrArg Int32.toInt e2
  refine sat_bnd fun x5_3 e3 => ?_
  try (have k4 : (t_knots - (1 : Int32)).toInt = t_knots.toInt - (1 : Int32).toInt := ti_sub (by omega) (by omega))
  have te3 := congrArg Int32.toInt e3
  have hNN := NN_i
  exact l_X9_take_13 a1 a2 t_knots t_q t_beside t_bag t_forbidden t_mayNot t_fixed (by omega) (by omega) (by omega) (by omega) h_t_beside h_t_bag NN x3_1 x4_2 x5_3 t_state (by omega) (by omega) (by omega) h_t_state (by omega)
theorem l_X9_isFirst_2 (a1 : Int32) (a2 : Int32) (t_bag : Nat → Int32) (h_a1 : 0 ≤ a1.toInt ∧ a1.toInt ≤ 13) (h_t_bag : ∀ i, 0 ≤ (t_bag i).toInt ∧ (t_bag i).toInt ≤ 16383) : ∀ (n : Nat) (x3 : Int32), (0 ≤ x3.toInt ∧ x3.toInt ≤ 13) → 13 - x3.toInt < (n : Int) → Sat (L_X9_isFirst_2 a1 a2 t_bag n x3) (fun r => (0 ≤ r.toInt ∧ r.toInt ≤ 1) ∧ True) := by
  intro n
  induction n with
  | zero => intro x3 h_x3 hM; exfalso; omega
  | succ n ih =>
    intro x3 h_x3 hM
    rw [L_X9_isFirst_2]
    have l1 : (1 : Int32).toInt = 1 := rfl
    have l0 : (0 : Int32).toInt = 0 := rfl
    refine sat_ite (fun hc1 => ?_) (fun hc1 => ?_)
    · have thc1 := ple hc1
      refine sat_ldA (okI_of (by omega)) fun v2 e2 => ?_
      have hv2 := ra_get e2 h_t_bag
      refine sat_ite (fun hc3 => ?_) (fun hc3 => ?_)
      · have thc3 := congrArg Int32.toInt hc3
        exact sat_some ⟨(by omega), trivial⟩
      · have thc3 := neq hc3
        exact sat_some ⟨(by omega), trivial⟩
    · have thc1 := nle hc1
      refine sat_ldA (okI_of (by omega)) fun v3 e4 => ?_
      have hv3 := ra_get e4 h_t_bag
      refine sat_ite (fun hc5 => ?_) (fun hc5 => ?_)
      · have thc5 := congrArg Int32.toInt hc5
        exact sat_some ⟨(by omega), trivial⟩
      · have thc5 := neq hc5
        refine sat_bnd fun x3_4 e6 => ?_
        try (have k7 : (x3 + (1 : Int32)).toInt = x3.toInt + (1 : Int32).toInt := ti_add (by omega) (by omega))
        have te6 := congrArg Int32.toInt e6
        exact ih x3_4 (by omega) (by omega)
theorem s_X9_isFirst (a1 : Int32) (a2 : Int32) (t_bag : Nat → Int32) (h_a1 : 0 ≤ a1.toInt ∧ a1.toInt ≤ 13) (h_t_bag : ∀ i, 0 ≤ (t_bag i).toInt ∧ (t_bag i).toInt ≤ 16383) : Sat (f_X9_isFirst a1 a2 t_bag) (fun r => (0 ≤ r.toInt ∧ r.toInt ≤ 1) ∧ True) := by
  unfold f_X9_isFirst
  have l0 : (0 : Int32).toInt = 0 := rfl
  refine sat_bnd fun x3_1 e1 => ?_
  have te1 := congrArg Int32.toInt e1
  have hNN := NN_i
  exact l_X9_isFirst_2 a1 a2 t_bag (by omega) h_t_bag NN x3_1 (by omega) (by omega)
theorem l_X9_own_54 (a1 : Int32) (t_knots : Int32) (t_weight : Nat → Int32) (t_beside : Nat → Int32) (t_edge : Nat → Int32) (t_bag : Nat → Int32) (t_factor : Nat → Int32) (t_pairFactor : Nat → Int32) (t_state : Nat → Int32) (k_5 : Int64 → Int32 → Option (Int64)) (g_5 : Int) (h_a1 : 0 ≤ a1.toInt ∧ a1.toInt ≤ 13) (h_t_knots : 0 ≤ t_knots.toInt ∧ t_knots.toInt ≤ 14) (h_t_beside : ∀ i, 0 ≤ (t_beside i).toInt ∧ (t_beside i).toInt ≤ 16383) (h_t_bag : ∀ i, 0 ≤ (t_bag i).toInt ∧ (t_bag i).toInt ≤ 16383) (h_t_state : ∀ i, 0 ≤ (t_state i).toInt ∧ (t_state i).toInt ≤ 3) (hk_5 : ∀ (x2 : Int64) (x4 : Int32), (0 ≤ x4.toInt ∧ x4.toInt ≤ 14) → (14 - x4.toInt < g_5) → Sat (k_5 x2 x4) (fun r => True)) : ∀ (n : Nat) (x2 : Int64) (x4 : Int32) (x5 : Int32), (0 ≤ x4.toInt ∧ x4.toInt ≤ 13) → (0 ≤ x5.toInt ∧ x5.toInt ≤ 13) → (14 - x4.toInt ≤ g_5) → 13 - x5.toInt < (n : Int) → Sat (L_X9_own_54 a1 t_knots t_weight t_beside t_edge t_bag t_factor t_pairFactor t_state k_5 n x2 x4 x5) (fun r => True) := by
  intro n
  induction n with
  | zero => intro x2 x4 x5 h_x4 h_x5 hg_5 hM; exfalso; omega
  | succ n ih =>
    intro x2 x4 x5 h_x4 h_x5 hg_5 hM
    rw [L_X9_own_54]
    have l1 : (1 : Int32).toInt = 1 := rfl
    have l0 : (0 : Int32).toInt = 0 := rfl
    have l14 : (14 : Int32).toInt = 14 := rfl
    have l4 : (4 : Int32).toInt = 4 := rfl
    refine sat_ite (fun hc1 => ?_) (fun hc1 => ?_)
    · have thc1 := ple hc1
      refine sat_bnd fun x4_5 e2 => ?_
      try (have k3 : (x4 + (1 : Int32)).toInt = x4.toInt + (1 : Int32).toInt := ti_add (by omega) (by omega))
      have te2 := congrArg Int32.toInt e2
      exact hk_5 x2 x4_5 (by omega) (by omega)
    · have thc1 := nle hc1
      refine sat_cal (s_X9_isEdge x4 x5 t_knots t_beside (by omega) h_t_beside) fun u6 hu6 => ?_
      obtain ⟨hu6_0, -⟩ := hu6
      refine sat_ite (fun hc4 => ?_) (fun hc4 => ?_)
      · have thc4 := congrArg Int32.toInt hc4
        refine sat_bnd fun x5_7 e5 => ?_
        try (have k6 : (x5 + (1 : Int32)).toInt = x5.toInt + (1 : Int32).toInt := ti_add (by omega) (by omega))
        have te5 := congrArg Int32.toInt e5
        exact ih x2 x4 x5_7 (by omega) (by omega) (by omega) (by omega)
      · have thc4 := neq hc4
        refine sat_cal (s_X9_isFirst a1 (((1 : Int32) <<< (x4 &&& 31)) ||| ((1 : Int32) <<< (x5 &&& 31))) t_bag (by omega) h_t_bag) fun u8 hu8 => ?_
        obtain ⟨hu8_0, -⟩ := hu8
        refine sat_ite (fun hc7 => ?_) (fun hc7 => ?_)
        · have thc7 := congrArg Int32.toInt hc7
          refine sat_bnd fun x5_9 e8 => ?_
          try (have k9 : (x5 + (1 : Int32)).toInt = x5.toInt + (1 : Int32).toInt := ti_add (by omega) (by omega))
          have te8 := congrArg Int32.toInt e8
          exact ih x2 x4 x5_9 (by omega) (by omega) (by omega) (by omega)
        · have thc7 := neq hc7
          try (have k11 : ((14 : Int32) * x4).toInt = 14 * x4.toInt := ti_cmul rfl (by omega))
          try (have k12 : (((14 : Int32) * x4) + x5).toInt = ((14 : Int32) * x4).toInt + x5.toInt := ti_add (by omega) (by omega))
          refine sat_ldA (okI_of (by omega)) fun v10 e10 => ?_
          refine sat_ldA (okI_of (by omega)) fun v11 e13 => ?_
          have hv11 := ra_get e13 h_t_state
          refine sat_ldA (okI_of (by omega)) fun v12 e14 => ?_
          have hv12 := ra_get e14 h_t_state
          try (have k16 : ((4 : Int32) * v11).toInt = 4 * v11.toInt := ti_cmul rfl (by omega))
          try (have k17 : (((4 : Int32) * v11) + v12).toInt = ((4 : Int32) * v11).toInt + v12.toInt := ti_add (by omega) (by omega))
          refine sat_ldA (okI_of (by omega)) fun v13 e15 => ?_
          refine sat_bnd fun x2_14 e18 => ?_
          refine sat_bnd fun x5_15 e19 => ?_
          try (have k20 : (x5 + (1 : Int32)).toInt = x5.toInt + (1 : Int32).toInt := ti_add (by omega) (by omega))
          have te19 := congrArg Int32.toInt e19
          exact ih x2_14 x4 x5_15 (by omega) (by omega) (by omega) (by omega)
theorem l_X9_own_5 (a1 : Int32) (t_knots : Int32) (t_weight : Nat → Int32) (t_beside : Nat → Int32) (t_edge : Nat → Int32) (t_bag : Nat → Int32) (t_factor : Nat → Int32) (t_pairFactor : Nat → Int32) (t_state : Nat → Int32) (h_a1 : 0 ≤ a1.toInt ∧ a1.toInt ≤ 13) (h_t_knots : 0 ≤ t_knots.toInt ∧ t_knots.toInt ≤ 14) (h_t_beside : ∀ i, 0 ≤ (t_beside i).toInt ∧ (t_beside i).toInt ≤ 16383) (h_t_bag : ∀ i, 0 ≤ (t_bag i).toInt ∧ (t_bag i).toInt ≤ 16383) (h_t_state : ∀ i, 0 ≤ (t_state i).toInt ∧ (t_state i).toInt ≤ 3) : ∀ (n : Nat) (x2 : Int64) (x4 : Int32), (0 ≤ x4.toInt ∧ x4.toInt ≤ 14) → 14 - x4.toInt < (n : Int) → Sat (L_X9_own_5 a1 t_knots t_weight t_beside t_edge t_bag t_factor t_pairFactor t_state n x2 x4) (fun r => True) := by
  intro n
  induction n with
  | zero => intro x2 x4 h_x4 hM; exfalso; omega
  | succ n ih =>
    intro x2 x4 h_x4 hM
    rw [L_X9_own_5]
    have l0 : (0 : Int32).toInt = 0 := rfl
    refine sat_ite (fun hc1 => ?_) (fun hc1 => ?_)
    · have thc1 := ple hc1
      exact sat_some trivial
    · have thc1 := nle hc1
      refine sat_cal (s_X9_isFirst a1 ((1 : Int32) <<< (x4 &&& 31)) t_bag (by omega) h_t_bag) fun u3 hu3 => ?_
      obtain ⟨hu3_0, -⟩ := hu3
      refine sat_ite (fun hc2 => ?_) (fun hc2 => ?_)
      · have thc2 := congrArg Int32.toInt hc2
        refine sat_bnd fun x5_4 e3 => ?_
        have te3 := congrArg Int32.toInt e3
        have hNN := NN_i
        exact l_X9_own_54 a1 t_knots t_weight t_beside t_edge t_bag t_factor t_pairFactor t_state (fun y0 y1 => L_X9_own_5 a1 t_knots t_weight t_beside t_edge t_bag t_factor t_pairFactor t_state n y0 y1) (n : Int) (by omega) (by omega) h_t_beside h_t_bag h_t_state (fun y0 y1 z0 zm => ih y0 y1 z0 zm) NN x2 x4 x5_4 (by omega) (by omega) (by omega) (by omega)
      · have thc2 := neq hc2
        refine sat_ldA (okI_of (by omega)) fun v16 e4 => ?_
        refine sat_ldA (okI_of (by omega)) fun v17 e5 => ?_
        have hv17 := ra_get e5 h_t_state
        refine sat_ldA (okI_of (by omega)) fun v18 e6 => ?_
        refine sat_bnd fun x2_19 e7 => ?_
        refine sat_bnd fun x5_20 e8 => ?_
        have te8 := congrArg Int32.toInt e8
        have hNN := NN_i
        exact l_X9_own_54 a1 t_knots t_weight t_beside t_edge t_bag t_factor t_pairFactor t_state (fun y0 y1 => L_X9_own_5 a1 t_knots t_weight t_beside t_edge t_bag t_factor t_pairFactor t_state n y0 y1) (n : Int) (by omega) (by omega) h_t_beside h_t_bag h_t_state (fun y0 y1 z0 zm => ih y0 y1 z0 zm) NN x2_19 x4 x5_20 (by omega) (by omega) (by omega) (by omega)
theorem s_X9_own (a1 : Int32) (t_knots : Int32) (t_weight : Nat → Int32) (t_beside : Nat → Int32) (t_edge : Nat → Int32) (t_bag : Nat → Int32) (t_factor : Nat → Int32) (t_pairFactor : Nat → Int32) (t_state : Nat → Int32) (h_a1 : 0 ≤ a1.toInt ∧ a1.toInt ≤ 13) (h_t_knots : 0 ≤ t_knots.toInt ∧ t_knots.toInt ≤ 14) (h_t_beside : ∀ i, 0 ≤ (t_beside i).toInt ∧ (t_beside i).toInt ≤ 16383) (h_t_bag : ∀ i, 0 ≤ (t_bag i).toInt ∧ (t_bag i).toInt ≤ 16383) (h_t_state : ∀ i, 0 ≤ (t_state i).toInt ∧ (t_state i).toInt ≤ 3) : Sat (f_X9_own a1 t_knots t_weight t_beside t_edge t_bag t_factor t_pairFactor t_state) (fun r => True) := by
  unfold f_X9_own
  have l0 : (0 : Int32).toInt = 0 := rfl
  refine sat_bnd fun x2_1 e1 => ?_
  refine sat_bnd fun x4_2 e2 => ?_
  have te2 := congrArg Int32.toInt e2
  have hNN := NN_i
  exact l_X9_own_5 a1 t_knots t_weight t_beside t_edge t_bag t_factor t_pairFactor t_state (by omega) (by omega) h_t_beside h_t_bag h_t_state NN x2_1 x4_2 (by omega) (by omega)
theorem j_X9_put__97  : ∀ (a1 : Int32) (a2 : Int64) (a4 : Int64) (a6 : Int64) (a8 : Int32) (t_count : Nat → Int64) (t_best : Nat → Int64) (t_bests : Nat → Int64), (0 ≤ a1.toInt ∧ a1.toInt ≤ 14335) → Sat (J_X9_put__97 a1 a2 a4 a6 a8 t_count t_best t_bests) (fun r => True) := by
  intro a1 a2 a4 a6 a8 t_count t_best t_bests h_a1
  unfold J_X9_put__97
  refine sat_ldA (okI_of (by omega)) fun v4 e1 => ?_
  refine sat_stJ (okI_of (by omega)) fun t_count_5 e2 => ?_
  exact sat_some trivial
theorem j_X9_put__48  : ∀ (a1 : Int32) (a2 : Int64) (a4 : Int64) (a6 : Int64) (a8 : Int32) (s0 : Int32) (t_count : Nat → Int64) (t_best : Nat → Int64) (t_bests : Nat → Int64), (0 ≤ a1.toInt ∧ a1.toInt ≤ 14335) → Sat (J_X9_put__48 a1 a2 a4 a6 a8 s0 t_count t_best t_bests) (fun r => True) := by
  intro a1 a2 a4 a6 a8 s0 t_count t_best t_bests h_a1
  unfold J_X9_put__48
  have l0 : (0 : Int32).toInt = 0 := rfl
  refine sat_bnd fun x9_2 e1 => ?_
  have te1 := congrArg Int32.toInt e1
  refine sat_ite (fun hc2 => ?_) (fun hc2 => ?_)
  · have thc2 := congrArg Int32.toInt hc2
    refine sat_ldA (okI_of (by omega)) fun v3 e3 => ?_
    refine sat_ite (fun hc4 => ?_) (fun hc4 => ?_)
    · refine sat_ldA (okI_of (by omega)) fun v6 e5 => ?_
      refine sat_stJ (okI_of (by omega)) fun t_bests_7 e6 => ?_
      exact j_X9_put__97 a1 a2 a4 a6 a8 t_count t_best t_bests_7 (by omega)
    · exact j_X9_put__97 a1 a2 a4 a6 a8 t_count t_best t_bests (by omega)
  · have thc2 := neq hc2
    refine sat_stJ (okI_of (by omega)) fun t_best_8 e7 => ?_
    refine sat_stJ (okI_of (by omega)) fun t_bests_9 e8 => ?_
    exact j_X9_put__97 a1 a2 a4 a6 a8 t_count t_best_8 t_bests_9 (by omega)
theorem s_X9_put_ (a1 : Int32) (a2 : Int64) (a4 : Int64) (a6 : Int64) (a8 : Int32) (t_count : Nat → Int64) (t_best : Nat → Int64) (t_bests : Nat → Int64) (h_a1 : 0 ≤ a1.toInt ∧ a1.toInt ≤ 14335) : Sat (f_X9_put_ a1 a2 a4 a6 a8 t_count t_best t_bests) (fun r => True) := by
  unfold f_X9_put_
  have l0 : (0 : Int32).toInt = 0 := rfl
  refine sat_ldA (okI_of (by omega)) fun v1 e1 => ?_
  refine sat_ite (fun hc2 => ?_) (fun hc2 => ?_)
  · exact j_X9_put__48 a1 a2 a4 a6 a8 (1 : Int32) t_count t_best t_bests (by omega)
  · refine sat_ite (fun hc3 => ?_) (fun hc3 => ?_)
    · have thc3 := congrArg Int32.toInt hc3
      refine sat_ldA (okI_of (by omega)) fun v10 e4 => ?_
      refine sat_ite (fun hc5 => ?_) (fun hc5 => ?_)
      · exact j_X9_put__48 a1 a2 a4 a6 a8 (0 : Int32) t_count t_best t_bests (by omega)
      · exact j_X9_put__48 a1 a2 a4 a6 a8 (1 : Int32) t_count t_best t_bests (by omega)
    · have thc3 := neq hc3
      refine sat_ldA (okI_of (by omega)) fun v11 e6 => ?_
      refine sat_ite (fun hc7 => ?_) (fun hc7 => ?_)
      · exact j_X9_put__48 a1 a2 a4 a6 a8 (0 : Int32) t_count t_best t_bests (by omega)
      · exact j_X9_put__48 a1 a2 a4 a6 a8 (1 : Int32) t_count t_best t_bests (by omega)
theorem l_X9_ask_119 (a1 : Int32) (t_knots : Int32) (t_bags : Int32) (t_q : Int32) (t_weight : Nat → Int32) (t_beside : Nat → Int32) (t_edge : Nat → Int32) (t_bag : Nat → Int32) (t_up : Nat → Int32) (t_factor : Nat → Int32) (t_pairFactor : Nat → Int32) (t_forbidden : Nat → Int32) (t_mayNot : Nat → Int32) (t_fixed : Nat → Int32) (k_83 : Int32 → Int32 → Int32 → Int32 → Int64 → Int64 → Int64 → (Nat → Int32) → (Nat → Int64) → (Nat → Int64) → (Nat → Int64) → Option (Int64 × Int64 × Int64 × (Nat → Int32) × (Nat → Int64) × (Nat → Int64) × (Nat → Int64))) (g_24 : Int) (g_83 : Int) (h_t_knots : 0 ≤ t_knots.toInt ∧ t_knots.toInt ≤ 14) (h_t_bags : 0 ≤ t_bags.toInt ∧ t_bags.toInt ≤ 14) (h_t_q : 1 ≤ t_q.toInt ∧ t_q.toInt ≤ 4) (h_t_beside : ∀ i, 0 ≤ (t_beside i).toInt ∧ (t_beside i).toInt ≤ 16383) (h_t_bag : ∀ i, 0 ≤ (t_bag i).toInt ∧ (t_bag i).toInt ≤ 16383) (h_t_up : ∀ i, -1 ≤ (t_up i).toInt ∧ (t_up i).toInt ≤ 13) (hp0 : AskOK t_bags t_bag) (hk_83 : ∀ (x2 : Int32) (x3 : Int32) (x4 : Int32) (x5 : Int32) (t_allCount : Int64) (t_allBest : Int64) (t_allBests : Int64) (t_state : Nat → Int32) (t_count : Nat → Int64) (t_best : Nat → Int64) (t_bests : Nat → Int64), (0 ≤ x2.toInt ∧ x2.toInt ≤ 13) → (M5 x3) → (0 ≤ x4.toInt ∧ x4.toInt ≤ 1024) → (0 ≤ x5.toInt ∧ x5.toInt ≤ 1024) → (∀ i, 0 ≤ (t_state i).toInt ∧ (t_state i).toInt ≤ 3) → (x2.toInt < t_bags.toInt) → (14 - x2.toInt ≤ g_24) → (1024 - x5.toInt < g_83) → Sat (k_83 x2 x3 x4 x5 t_allCount t_allBest t_allBests t_state t_count t_best t_bests) (fun r => (∀ i, 0 ≤ ((r.2.2.2.1) i).toInt ∧ ((r.2.2.2.1) i).toInt ≤ 3) ∧ True)) : ∀ (n : Nat) (x2 : Int32) (x3 : Int32) (x4 : Int32) (x5 : Int32) (x6 : Int64) (x8 : Int64) (x10 : Int64) (x12 : Int32) (t_allCount : Int64) (t_allBest : Int64) (t_allBests : Int64) (t_state : Nat → Int32) (t_count : Nat → Int64) (t_best : Nat → Int64) (t_bests : Nat → Int64), (0 ≤ x2.toInt ∧ x2.toInt ≤ 13) → (M5 x3) → (0 ≤ x4.toInt ∧ x4.toInt ≤ 1024) → (0 ≤ x5.toInt ∧ x5.toInt ≤ 1023) → (0 ≤ x12.toInt ∧ x12.toInt ≤ 13) → (∀ i, 0 ≤ (t_state i).toInt ∧ (t_state i).toInt ≤ 3) → (x2.toInt < t_bags.toInt) → (14 - x2.toInt ≤ g_24) → (1024 - x5.toInt ≤ g_83) → 13 - x12.toInt < (n : Int) → Sat (L_X9_ask_119 a1 t_knots t_bags t_q t_weight t_beside t_edge t_bag t_up t_factor t_pairFactor t_forbidden t_mayNot t_fixed k_83 n x2 x3 x4 x5 x6 x8 x10 x12 t_allCount t_allBest t_allBests t_state t_count t_best t_bests) (fun r => (∀ i, 0 ≤ ((r.2.2.2.1) i).toInt ∧ ((r.2.2.2.1) i).toInt ≤ 3) ∧ True) := by
  intro n
  induction n with
  | zero => intro x2 x3 x4 x5 x6 x8 x10 x12 t_allCount t_allBest t_allBests t_state t_count t_best t_bests h_x2 h_x3 h_x4 h_x5 h_x12 h_t_state hi0 hg_24 hg_83 hM; exfalso; omega
  | succ n ih =>
    intro x2 x3 x4 x5 x6 x8 x10 x12 t_allCount t_allBest t_allBests t_state t_count t_best t_bests h_x2 h_x3 h_x4 h_x5 h_x12 h_t_state hi0 hg_24 hg_83 hM
    rw [L_X9_ask_119]
    have l1 : (1 : Int32).toInt = 1 := rfl
    have l1024 : (1024 : Int32).toInt = 1024 := rfl
    have hM5 := m5_c h_x3
    refine sat_ite (fun hc => ?_) (fun hc => ?_)
    · have k5 : (x5 + (1 : Int32)).toInt = x5.toInt + (1 : Int32).toInt := ti_add (by omega) (by omega)
      refine sat_ite (fun _ => ?_) (fun _ => ?_)
      · refine sat_bnd fun x5_26 e => ?_
        have te := congrArg Int32.toInt e
        exact hk_83 x2 x3 x4 x5_26 t_allCount t_allBest t_allBests t_state t_count t_best t_bests h_x2 h_x3 h_x4 (by omega) h_t_state hi0 hg_24 (by omega)
      · refine sat_cal (s_X9_code x3 t_knots t_state h_x3.1 h_t_knots h_t_state) fun u27 hu27 => ?_
        have hc27 := hu27.1
        have k1 : ((1024 : Int32) * x2).toInt = 1024 * x2.toInt := ti_cmul rfl (by omega)
        have k2 : (((1024 : Int32) * x2) + u27).toInt = ((1024 : Int32) * x2).toInt + u27.toInt := ti_add (by omega) (by omega)
        refine sat_cal (s_X9_put_ (((1024 : Int32) * x2) + u27) x6 x8 x10 a1 t_count t_best t_bests (by omega)) fun u28 _ => ?_
        refine sat_bnd fun x5_29 e => ?_
        have te := congrArg Int32.toInt e
        exact hk_83 x2 x3 x4 x5_29 t_allCount t_allBest t_allBests t_state u28.1 u28.2.1 u28.2.2 h_x2 h_x3 h_x4 (by omega) h_t_state hi0 hg_24 (by omega)
    · have hc := nle hc
      have n2 := tn (x := x2) (by omega)
      have k12 : (x12 + (1 : Int32)).toInt = x12.toInt + (1 : Int32).toInt := ti_add (by omega) (by omega)
      refine sat_ldA (okI_of (by omega)) fun v30 e30 => ?_
      refine sat_ite (fun hd => ?_) (fun hd => ?_)
      · refine sat_ldA (okI_of (by omega)) fun v31 e31 => ?_
        refine sat_ldA (okI_of (by omega)) fun v32 e32 => ?_
        have h5 : M5 (v31 &&& v32) := m5_and (ra_get e31 h_t_bag) (ra_get e32 h_t_bag) (by rw [e32]; exact hp0.2 _ (by omega))
        have hm := m5_c h5
        refine sat_cal (s_X9_code (v31 &&& v32) t_knots t_state h5.1 h_t_knots h_t_state) fun u33 hu33 => ?_
        have hc33 := hu33.1
        have k1 : ((1024 : Int32) * x12).toInt = 1024 * x12.toInt := ti_cmul rfl (by omega)
        have k2 : (((1024 : Int32) * x12) + u33).toInt = ((1024 : Int32) * x12).toInt + u33.toInt := ti_add (by omega) (by omega)
        refine sat_bnd fun x13 e13 => ?_
        have te13 := congrArg Int32.toInt e13
        refine sat_ldA (okI_of (by omega)) fun v35 _ => ?_
        refine sat_bnd fun x6_36 _ => ?_
        refine sat_ldA (okI_of (by omega)) fun v37 _ => ?_
        refine sat_bnd fun x8_38 _ => ?_
        refine sat_ldA (okI_of (by omega)) fun v39 _ => ?_
        refine sat_bnd fun x10_40 _ => ?_
        refine sat_bnd fun x12_41 e12 => ?_
        have te12 := congrArg Int32.toInt e12
        exact ih x2 x3 x4 x5 x6_36 x8_38 x10_40 x12_41 t_allCount t_allBest t_allBests t_state t_count t_best t_bests h_x2 h_x3 h_x4 h_x5 (by omega) h_t_state hi0 hg_24 hg_83 (by omega)
      · refine sat_bnd fun x12_42 e12 => ?_
        have te12 := congrArg Int32.toInt e12
        exact ih x2 x3 x4 x5 x6 x8 x10 x12_42 t_allCount t_allBest t_allBests t_state t_count t_best t_bests h_x2 h_x3 h_x4 h_x5 (by omega) h_t_state hi0 hg_24 hg_83 (by omega)
theorem l_X9_ask_83 (a1 : Int32) (t_knots : Int32) (t_bags : Int32) (t_q : Int32) (t_weight : Nat → Int32) (t_beside : Nat → Int32) (t_edge : Nat → Int32) (t_bag : Nat → Int32) (t_up : Nat → Int32) (t_factor : Nat → Int32) (t_pairFactor : Nat → Int32) (t_forbidden : Nat → Int32) (t_mayNot : Nat → Int32) (t_fixed : Nat → Int32) (k_24 : Int32 → Int64 → Int64 → Int64 → (Nat → Int32) → (Nat → Int64) → (Nat → Int64) → (Nat → Int64) → Option (Int64 × Int64 × Int64 × (Nat → Int32) × (Nat → Int64) × (Nat → Int64) × (Nat → Int64))) (g_24 : Int) (h_t_knots : 0 ≤ t_knots.toInt ∧ t_knots.toInt ≤ 14) (h_t_bags : 0 ≤ t_bags.toInt ∧ t_bags.toInt ≤ 14) (h_t_q : 1 ≤ t_q.toInt ∧ t_q.toInt ≤ 4) (h_t_beside : ∀ i, 0 ≤ (t_beside i).toInt ∧ (t_beside i).toInt ≤ 16383) (h_t_bag : ∀ i, 0 ≤ (t_bag i).toInt ∧ (t_bag i).toInt ≤ 16383) (h_t_up : ∀ i, -1 ≤ (t_up i).toInt ∧ (t_up i).toInt ≤ 13) (hp0 : AskOK t_bags t_bag) (hk_24 : ∀ (x2 : Int32) (t_allCount : Int64) (t_allBest : Int64) (t_allBests : Int64) (t_state : Nat → Int32) (t_count : Nat → Int64) (t_best : Nat → Int64) (t_bests : Nat → Int64), (0 ≤ x2.toInt ∧ x2.toInt ≤ 14) → (∀ i, 0 ≤ (t_state i).toInt ∧ (t_state i).toInt ≤ 3) → (14 - x2.toInt < g_24) → Sat (k_24 x2 t_allCount t_allBest t_allBests t_state t_count t_best t_bests) (fun r => (∀ i, 0 ≤ ((r.2.2.2.1) i).toInt ∧ ((r.2.2.2.1) i).toInt ≤ 3) ∧ True)) : ∀ (n : Nat) (x2 : Int32) (x3 : Int32) (x4 : Int32) (x5 : Int32) (t_allCount : Int64) (t_allBest : Int64) (t_allBests : Int64) (t_state : Nat → Int32) (t_count : Nat → Int64) (t_best : Nat → Int64) (t_bests : Nat → Int64), (0 ≤ x2.toInt ∧ x2.toInt ≤ 13) → (M5 x3) → (0 ≤ x4.toInt ∧ x4.toInt ≤ 1024) → (0 ≤ x5.toInt ∧ x5.toInt ≤ 1024) → (∀ i, 0 ≤ (t_state i).toInt ∧ (t_state i).toInt ≤ 3) → (x2.toInt < t_bags.toInt) → (14 - x2.toInt ≤ g_24) → 1024 - x5.toInt < (n : Int) → Sat (L_X9_ask_83 a1 t_knots t_bags t_q t_weight t_beside t_edge t_bag t_up t_factor t_pairFactor t_forbidden t_mayNot t_fixed k_24 n x2 x3 x4 x5 t_allCount t_allBest t_allBests t_state t_count t_best t_bests) (fun r => (∀ i, 0 ≤ ((r.2.2.2.1) i).toInt ∧ ((r.2.2.2.1) i).toInt ≤ 3) ∧ True) := by
  intro n
  induction n with
  | zero => intro x2 x3 x4 x5 t_allCount t_allBest t_allBests t_state t_count t_best t_bests h_x2 h_x3 h_x4 h_x5 h_t_state hi0 hg_24 hM; exfalso; omega
  | succ n ih =>
    intro x2 x3 x4 x5 t_allCount t_allBest t_allBests t_state t_count t_best t_bests h_x2 h_x3 h_x4 h_x5 h_t_state hi0 hg_24 hM
    rw [L_X9_ask_83]
    have l1 : (1 : Int32).toInt = 1 := rfl
    have l0 : (0 : Int32).toInt = 0 := rfl
    refine sat_ite (fun hc1 => ?_) (fun hc1 => ?_)
    · have thc1 := ple hc1
      refine sat_bnd fun x2_19 e2 => ?_
      try (have k3 : (x2 + (1 : Int32)).toInt = x2.toInt + (1 : Int32).toInt := ti_add (by omega) (by omega))
      have te2 := congrArg Int32.toInt e2
      exact hk_24 x2_19 t_allCount t_allBest t_allBests t_state t_count t_best t_bests (by omega) h_t_state (by omega)
    · have thc1 := nle hc1
      refine sat_cal (s_X9_take x2 x5 t_knots t_q t_beside t_bag t_forbidden t_mayNot t_fixed t_state (by omega) (by omega) (by omega) (by omega) h_t_beside h_t_bag h_t_state) fun u20 hu20 => ?_
      obtain ⟨hu20_0, hu20_1, -⟩ := hu20
      refine sat_ite (fun hc4 => ?_) (fun hc4 => ?_)
      · have thc4 := congrArg Int32.toInt hc4
        refine sat_bnd fun x5_43 e5 => ?_
        try (have k6 : (x5 + (1 : Int32)).toInt = x5.toInt + (1 : Int32).toInt := ti_add (by omega) (by omega))
        have te5 := congrArg Int32.toInt e5
        exact ih x2 x3 x4 x5_43 t_allCount t_allBest t_allBests u20.2 t_count t_best t_bests (by omega) h_x3 (by omega) (by omega) hu20_1 (by omega) (by omega) (by omega)
      · have thc4 := neq hc4
        refine sat_bnd fun x6_21 e7 => ?_
        refine sat_cal (s_X9_own x2 t_knots t_weight t_beside t_edge t_bag t_factor t_pairFactor u20.2 (by omega) (by omega) h_t_beside h_t_bag hu20_1) fun u22 hu22 => ?_
        refine sat_bnd fun x8_23 e8 => ?_
        refine sat_bnd fun x10_24 e9 => ?_
        refine sat_bnd fun x12_25 e10 => ?_
        have te10 := congrArg Int32.toInt e10
        have hNN := NN_i
        exact l_X9_ask_119 a1 t_knots t_bags t_q t_weight t_beside t_edge t_bag t_up t_factor t_pairFactor t_forbidden t_mayNot t_fixed (fun y0 y1 y2 y3 y4 y5 y6 y7 y8 y9 y10 => L_X9_ask_83 a1 t_knots t_bags t_q t_weight t_beside t_edge t_bag t_up t_factor t_pairFactor t_forbidden t_mayNot t_fixed k_24 n y0 y1 y2 y3 y4 y5 y6 y7 y8 y9 y10) g_24 (n : Int) (by omega) (by omega) (by omega) h_t_beside h_t_bag h_t_up hp0 (fun y0 y1 y2 y3 y4 y5 y6 y7 y8 y9 y10 z0 z1 z2 z3 z4 z5 z6 zm => ih y0 y1 y2 y3 y4 y5 y6 y7 y8 y9 y10 z0 z1 z2 z3 z4 z5 z6 zm) NN x2 x3 x4 x5 x6_21 x8_23 x10_24 x12_25 t_allCount t_allBest t_allBests u20.2 t_count t_best t_bests (by omega) h_x3 (by omega) (by omega) (by omega) hu20_1 (by omega) (by omega) (by omega) (by omega)
theorem j_X9_ask_63 (a1 : Int32) (t_knots : Int32) (t_bags : Int32) (t_q : Int32) (t_weight : Nat → Int32) (t_beside : Nat → Int32) (t_edge : Nat → Int32) (t_bag : Nat → Int32) (t_up : Nat → Int32) (t_factor : Nat → Int32) (t_pairFactor : Nat → Int32) (t_forbidden : Nat → Int32) (t_mayNot : Nat → Int32) (t_fixed : Nat → Int32) (k_24 : Int32 → Int64 → Int64 → Int64 → (Nat → Int32) → (Nat → Int64) → (Nat → Int64) → (Nat → Int64) → Option (Int64 × Int64 × Int64 × (Nat → Int32) × (Nat → Int64) × (Nat → Int64) × (Nat → Int64))) (g_24 : Int) (h_t_knots : 0 ≤ t_knots.toInt ∧ t_knots.toInt ≤ 14) (h_t_bags : 0 ≤ t_bags.toInt ∧ t_bags.toInt ≤ 14) (h_t_q : 1 ≤ t_q.toInt ∧ t_q.toInt ≤ 4) (h_t_beside : ∀ i, 0 ≤ (t_beside i).toInt ∧ (t_beside i).toInt ≤ 16383) (h_t_bag : ∀ i, 0 ≤ (t_bag i).toInt ∧ (t_bag i).toInt ≤ 16383) (h_t_up : ∀ i, -1 ≤ (t_up i).toInt ∧ (t_up i).toInt ≤ 13) (hp0 : AskOK t_bags t_bag) (hk_24 : ∀ (x2 : Int32) (t_allCount : Int64) (t_allBest : Int64) (t_allBests : Int64) (t_state : Nat → Int32) (t_count : Nat → Int64) (t_best : Nat → Int64) (t_bests : Nat → Int64), (0 ≤ x2.toInt ∧ x2.toInt ≤ 14) → (∀ i, 0 ≤ (t_state i).toInt ∧ (t_state i).toInt ≤ 3) → (14 - x2.toInt < g_24) → Sat (k_24 x2 t_allCount t_allBest t_allBests t_state t_count t_best t_bests) (fun r => (∀ i, 0 ≤ ((r.2.2.2.1) i).toInt ∧ ((r.2.2.2.1) i).toInt ≤ 3) ∧ True)) : ∀ (x2 : Int32) (s0 : Int32) (t_allCount : Int64) (t_allBest : Int64) (t_allBests : Int64) (t_state : Nat → Int32) (t_count : Nat → Int64) (t_best : Nat → Int64) (t_bests : Nat → Int64), (0 ≤ x2.toInt ∧ x2.toInt ≤ 13) → (M5 s0) → (∀ i, 0 ≤ (t_state i).toInt ∧ (t_state i).toInt ≤ 3) → (x2.toInt < t_bags.toInt) → (14 - x2.toInt ≤ g_24) → Sat (J_X9_ask_63 a1 t_knots t_bags t_q t_weight t_beside t_edge t_bag t_up t_factor t_pairFactor t_forbidden t_mayNot t_fixed k_24 x2 s0 t_allCount t_allBest t_allBests t_state t_count t_best t_bests) (fun r => (∀ i, 0 ≤ ((r.2.2.2.1) i).toInt ∧ ((r.2.2.2.1) i).toInt ≤ 3) ∧ True) := by
  intro x2 s0 t_allCount t_allBest t_allBests t_state t_count t_best t_bests h_x2 h_s0 h_t_state hi0 hg_24
  unfold J_X9_ask_63
  have l0 : (0 : Int32).toInt = 0 := rfl
  refine sat_bnd fun x3_14 e1 => ?_
  have h3 : M5 x3_14 := e1 ▸ h_s0
  refine sat_ldA (okI_of (by omega)) fun v15 e15 => ?_
  have n2 := tn (x := x2) (by omega)
  have hp := hp0.2 x2.toNatClampNeg (by omega)
  refine sat_cal (s_X9_bits v15 (ra_get e15 h_t_bag)) fun u16 hu16 => ?_
  refine sat_bnd fun x4_17 e4 => ?_
  have h4 : 0 ≤ x4_17.toInt ∧ x4_17.toInt ≤ 1024 := by rw [e4]; exact codes_rg hu16.1.1 (by rw [e15]; exact hp)
  refine sat_bnd fun x5_18 e5 => ?_
  have te5 := congrArg Int32.toInt e5
  have hNN := NN_i
  exact l_X9_ask_83 a1 t_knots t_bags t_q t_weight t_beside t_edge t_bag t_up t_factor t_pairFactor t_forbidden t_mayNot t_fixed k_24 g_24 h_t_knots h_t_bags h_t_q h_t_beside h_t_bag h_t_up hp0 hk_24 NN x2 x3_14 x4_17 x5_18 t_allCount t_allBest t_allBests t_state t_count t_best t_bests h_x2 h3 h4 (by omega) h_t_state hi0 hg_24 (by omega)
theorem l_X9_ask_24 (a1 : Int32) (t_knots : Int32) (t_bags : Int32) (t_q : Int32) (t_weight : Nat → Int32) (t_beside : Nat → Int32) (t_edge : Nat → Int32) (t_bag : Nat → Int32) (t_up : Nat → Int32) (t_factor : Nat → Int32) (t_pairFactor : Nat → Int32) (t_forbidden : Nat → Int32) (t_mayNot : Nat → Int32) (t_fixed : Nat → Int32) (h_t_knots : 0 ≤ t_knots.toInt ∧ t_knots.toInt ≤ 14) (h_t_bags : 0 ≤ t_bags.toInt ∧ t_bags.toInt ≤ 14) (h_t_q : 1 ≤ t_q.toInt ∧ t_q.toInt ≤ 4) (h_t_beside : ∀ i, 0 ≤ (t_beside i).toInt ∧ (t_beside i).toInt ≤ 16383) (h_t_bag : ∀ i, 0 ≤ (t_bag i).toInt ∧ (t_bag i).toInt ≤ 16383) (h_t_up : ∀ i, -1 ≤ (t_up i).toInt ∧ (t_up i).toInt ≤ 13) (hp0 : AskOK t_bags t_bag) : ∀ (n : Nat) (x2 : Int32) (t_allCount : Int64) (t_allBest : Int64) (t_allBests : Int64) (t_state : Nat → Int32) (t_count : Nat → Int64) (t_best : Nat → Int64) (t_bests : Nat → Int64), (0 ≤ x2.toInt ∧ x2.toInt ≤ 14) → (∀ i, 0 ≤ (t_state i).toInt ∧ (t_state i).toInt ≤ 3) → 14 - x2.toInt < (n : Int) → Sat (L_X9_ask_24 a1 t_knots t_bags t_q t_weight t_beside t_edge t_bag t_up t_factor t_pairFactor t_forbidden t_mayNot t_fixed n x2 t_allCount t_allBest t_allBests t_state t_count t_best t_bests) (fun r => (∀ i, 0 ≤ ((r.2.2.2.1) i).toInt ∧ ((r.2.2.2.1) i).toInt ≤ 3) ∧ True) := by
  intro n
  induction n with
  | zero => intro x2 t_allCount t_allBest t_allBests t_state t_count t_best t_bests h_x2 h_t_state hM; exfalso; omega
  | succ n ih =>
    intro x2 t_allCount t_allBest t_allBests t_state t_count t_best t_bests h_x2 h_t_state hM
    rw [L_X9_ask_24]
    have l1 : (1 : Int32).toInt = 1 := rfl
    have l0 : (0 : Int32).toInt = 0 := rfl
    have l1024 : (1024 : Int32).toInt = 1024 := rfl
    have hb1 := hp0.1
    refine sat_ite (fun hc => ?_) (fun hc => ?_)
    · have k1 : (t_bags - (1 : Int32)).toInt = t_bags.toInt - (1 : Int32).toInt := ti_sub (by omega) (by omega)
      have k2 : ((1024 : Int32) * (t_bags - (1 : Int32))).toInt = 1024 * (t_bags - (1 : Int32)).toInt := ti_cmul rfl (by omega)
      refine sat_bnd fun x2_3 e2 => ?_
      have te2 := congrArg Int32.toInt e2
      refine sat_ldA (okI_of (by omega)) fun v4 _ => ?_
      refine sat_bnd fun c5 _ => ?_
      refine sat_ldA (okI_of (by omega)) fun v6 _ => ?_
      refine sat_bnd fun c7 _ => ?_
      refine sat_ldA (okI_of (by omega)) fun v8 _ => ?_
      refine sat_bnd fun c9 _ => ?_
      exact sat_some ⟨h_t_state, trivial⟩
    · have hc := nle hc
      have n2 := tn (x := x2) (by omega)
      refine sat_ldA (okI_of (by omega)) fun v10 e10 => ?_
      have hv10 := ra_get e10 h_t_up
      refine sat_ite (fun hd => ?_) (fun hd => ?_)
      · have hd := ple hd
        refine sat_ldA (okI_of (by omega)) fun v11 e11 => ?_
        refine sat_ldA (okI_of (by omega)) fun v12 e12 => ?_
        have td := congrArg Int32.toInt (e12.trans e10.symm)
        refine sat_ldA (okI_of (by omega)) fun v13 e13 => ?_
        have h5 : M5 (v11 &&& v13) := by
          rw [and_cm]
          exact m5_and (ra_get e13 h_t_bag) (ra_get e11 h_t_bag) (by rw [e11]; exact hp0.2 _ (by omega))
        exact j_X9_ask_63 a1 t_knots t_bags t_q t_weight t_beside t_edge t_bag t_up t_factor t_pairFactor t_forbidden t_mayNot t_fixed (fun y0 y1 y2 y3 y4 y5 y6 y7 => L_X9_ask_24 a1 t_knots t_bags t_q t_weight t_beside t_edge t_bag t_up t_factor t_pairFactor t_forbidden t_mayNot t_fixed n y0 y1 y2 y3 y4 y5 y6 y7) (n : Int) h_t_knots h_t_bags h_t_q h_t_beside h_t_bag h_t_up hp0 (fun y0 y1 y2 y3 y4 y5 y6 y7 z0 z1 zm => ih y0 y1 y2 y3 y4 y5 y6 y7 z0 z1 zm) x2 (v11 &&& v13) t_allCount t_allBest t_allBests t_state t_count t_best t_bests (by omega) h5 h_t_state (by omega) (by omega)
      · exact j_X9_ask_63 a1 t_knots t_bags t_q t_weight t_beside t_edge t_bag t_up t_factor t_pairFactor t_forbidden t_mayNot t_fixed (fun y0 y1 y2 y3 y4 y5 y6 y7 => L_X9_ask_24 a1 t_knots t_bags t_q t_weight t_beside t_edge t_bag t_up t_factor t_pairFactor t_forbidden t_mayNot t_fixed n y0 y1 y2 y3 y4 y5 y6 y7) (n : Int) h_t_knots h_t_bags h_t_q h_t_beside h_t_bag h_t_up hp0 (fun y0 y1 y2 y3 y4 y5 y6 y7 z0 z1 zm => ih y0 y1 y2 y3 y4 y5 y6 y7 z0 z1 zm) x2 0 t_allCount t_allBest t_allBests t_state t_count t_best t_bests (by omega) m5_0 h_t_state (by omega) (by omega)
theorem l_X9_ask_2 (a1 : Int32) (t_knots : Int32) (t_bags : Int32) (t_q : Int32) (t_weight : Nat → Int32) (t_beside : Nat → Int32) (t_edge : Nat → Int32) (t_bag : Nat → Int32) (t_up : Nat → Int32) (t_factor : Nat → Int32) (t_pairFactor : Nat → Int32) (t_forbidden : Nat → Int32) (t_mayNot : Nat → Int32) (t_fixed : Nat → Int32) (h_t_knots : 0 ≤ t_knots.toInt ∧ t_knots.toInt ≤ 14) (h_t_bags : 0 ≤ t_bags.toInt ∧ t_bags.toInt ≤ 14) (h_t_q : 1 ≤ t_q.toInt ∧ t_q.toInt ≤ 4) (h_t_beside : ∀ i, 0 ≤ (t_beside i).toInt ∧ (t_beside i).toInt ≤ 16383) (h_t_bag : ∀ i, 0 ≤ (t_bag i).toInt ∧ (t_bag i).toInt ≤ 16383) (h_t_up : ∀ i, -1 ≤ (t_up i).toInt ∧ (t_up i).toInt ≤ 13) (hp0 : AskOK t_bags t_bag) : ∀ (n : Nat) (x2 : Int32) (t_allCount : Int64) (t_allBest : Int64) (t_allBests : Int64) (t_state : Nat → Int32) (t_count : Nat → Int64) (t_best : Nat → Int64) (t_bests : Nat → Int64), (0 ≤ x2.toInt ∧ x2.toInt ≤ 14336) → (∀ i, 0 ≤ (t_state i).toInt ∧ (t_state i).toInt ≤ 3) → 14336 - x2.toInt < (n : Int) → Sat (L_X9_ask_2 a1 t_knots t_bags t_q t_weight t_beside t_edge t_bag t_up t_factor t_pairFactor t_forbidden t_mayNot t_fixed n x2 t_allCount t_allBest t_allBests t_state t_count t_best t_bests) (fun r => (∀ i, 0 ≤ ((r.2.2.2.1) i).toInt ∧ ((r.2.2.2.1) i).toInt ≤ 3) ∧ True) := by
  intro n
  induction n with
  | zero => intro x2 t_allCount t_allBest t_allBests t_state t_count t_best t_bests h_x2 h_t_state hM; exfalso; omega
  | succ n ih =>
    intro x2 t_allCount t_allBest t_allBests t_state t_count t_best t_bests h_x2 h_t_state hM
    rw [L_X9_ask_2]
    have l14336 : (14336 : Int32).toInt = 14336 := rfl
    have l0 : (0 : Int32).toInt = 0 := rfl
    have l1 : (1 : Int32).toInt = 1 := rfl
    refine sat_ite (fun hc1 => ?_) (fun hc1 => ?_)
    · have thc1 := ple hc1
      refine sat_bnd fun x2_2 e2 => ?_
      have te2 := congrArg Int32.toInt e2
      have hNN := NN_i
      exact l_X9_ask_24 a1 t_knots t_bags t_q t_weight t_beside t_edge t_bag t_up t_factor t_pairFactor t_forbidden t_mayNot t_fixed (by omega) (by omega) (by omega) h_t_beside h_t_bag h_t_up hp0 NN x2_2 t_allCount t_allBest t_allBests t_state t_count t_best t_bests (by omega) h_t_state (by omega)
    · have thc1 := nle hc1
      refine sat_stJ (okI_of (by omega)) fun t_count_44 e3 => ?_
      refine sat_bnd fun x2_45 e4 => ?_
      try (have k5 : (x2 + (1 : Int32)).toInt = x2.toInt + (1 : Int32).toInt := ti_add (by omega) (by omega))
      have te4 := congrArg Int32.toInt e4
      exact ih x2_45 t_allCount t_allBest t_allBests t_state t_count_44 t_best t_bests (by omega) h_t_state (by omega)
theorem s_X9_ask (a1 : Int32) (t_knots : Int32) (t_bags : Int32) (t_q : Int32) (t_allCount : Int64) (t_allBest : Int64) (t_allBests : Int64) (t_weight : Nat → Int32) (t_beside : Nat → Int32) (t_edge : Nat → Int32) (t_bag : Nat → Int32) (t_up : Nat → Int32) (t_factor : Nat → Int32) (t_pairFactor : Nat → Int32) (t_forbidden : Nat → Int32) (t_mayNot : Nat → Int32) (t_fixed : Nat → Int32) (t_state : Nat → Int32) (t_count : Nat → Int64) (t_best : Nat → Int64) (t_bests : Nat → Int64) (h_t_knots : 0 ≤ t_knots.toInt ∧ t_knots.toInt ≤ 14) (h_t_bags : 0 ≤ t_bags.toInt ∧ t_bags.toInt ≤ 14) (h_t_q : 1 ≤ t_q.toInt ∧ t_q.toInt ≤ 4) (h_t_beside : ∀ i, 0 ≤ (t_beside i).toInt ∧ (t_beside i).toInt ≤ 16383) (h_t_bag : ∀ i, 0 ≤ (t_bag i).toInt ∧ (t_bag i).toInt ≤ 16383) (h_t_up : ∀ i, -1 ≤ (t_up i).toInt ∧ (t_up i).toInt ≤ 13) (h_t_state : ∀ i, 0 ≤ (t_state i).toInt ∧ (t_state i).toInt ≤ 3) (hp0 : AskOK t_bags t_bag) : Sat (f_X9_ask a1 t_knots t_bags t_q t_allCount t_allBest t_allBests t_weight t_beside t_edge t_bag t_up t_factor t_pairFactor t_forbidden t_mayNot t_fixed t_state t_count t_best t_bests) (fun r => (∀ i, 0 ≤ ((r.2.2.2.1) i).toInt ∧ ((r.2.2.2.1) i).toInt ≤ 3) ∧ True) := by
  unfold f_X9_ask
  have l0 : (0 : Int32).toInt = 0 := rfl
  refine sat_bnd fun x2_1 e1 => ?_
  have te1 := congrArg Int32.toInt e1
  have hNN := NN_i
  exact l_X9_ask_2 a1 t_knots t_bags t_q t_weight t_beside t_edge t_bag t_up t_factor t_pairFactor t_forbidden t_mayNot t_fixed (by omega) (by omega) (by omega) h_t_beside h_t_bag h_t_up hp0 NN x2_1 t_allCount t_allBest t_allBests t_state t_count t_best t_bests (by omega) h_t_state (by omega)
theorem s_X9_ways (t_knots : Int32) (t_bags : Int32) (t_q : Int32) (t_allCount : Int64) (t_allBest : Int64) (t_allBests : Int64) (t_weight : Nat → Int32) (t_beside : Nat → Int32) (t_edge : Nat → Int32) (t_bag : Nat → Int32) (t_up : Nat → Int32) (t_factor : Nat → Int32) (t_pairFactor : Nat → Int32) (t_forbidden : Nat → Int32) (t_mayNot : Nat → Int32) (t_fixed : Nat → Int32) (t_state : Nat → Int32) (t_count : Nat → Int64) (t_best : Nat → Int64) (t_bests : Nat → Int64) (h_t_knots : 0 ≤ t_knots.toInt ∧ t_knots.toInt ≤ 14) (h_t_bags : 0 ≤ t_bags.toInt ∧ t_bags.toInt ≤ 14) (h_t_q : 1 ≤ t_q.toInt ∧ t_q.toInt ≤ 4) (h_t_beside : ∀ i, 0 ≤ (t_beside i).toInt ∧ (t_beside i).toInt ≤ 16383) (h_t_bag : ∀ i, 0 ≤ (t_bag i).toInt ∧ (t_bag i).toInt ≤ 16383) (h_t_up : ∀ i, -1 ≤ (t_up i).toInt ∧ (t_up i).toInt ≤ 13) (h_t_state : ∀ i, 0 ≤ (t_state i).toInt ∧ (t_state i).toInt ≤ 3) : Sat (f_X9_ways t_knots t_bags t_q t_allCount t_allBest t_allBests t_weight t_beside t_edge t_bag t_up t_factor t_pairFactor t_forbidden t_mayNot t_fixed t_state t_count t_best t_bests) (fun r => (∀ i, 0 ≤ ((r.2.2.2.2.2.1) i).toInt ∧ ((r.2.2.2.2.2.1) i).toInt ≤ 3) ∧ True) := by
  unfold f_X9_ways
  have l0 : (0 : Int32).toInt = 0 := rfl
  refine sat_cal (s_X9_isAsked t_knots t_bags t_beside t_bag t_up (by omega) (by omega) h_t_beside h_t_bag h_t_up) fun u1 hu1 => ?_
  obtain ⟨hu1_0, -⟩ := hu1
  refine sat_ite (fun hc1 => ?_) (fun hc1 => ?_)
  · have thc1 := congrArg Int32.toInt hc1
    exact sat_some ⟨h_t_state, trivial⟩
  · have thc1 := neq hc1
    refine sat_cal (s_X9_free t_fixed) fun u2 hu2 => ?_
    refine sat_cal (s_X9_ask (1 : Int32) t_knots t_bags t_q t_allCount t_allBest t_allBests t_weight t_beside t_edge t_bag t_up t_factor t_pairFactor t_forbidden t_mayNot u2 t_state t_count t_best t_bests (by omega) (by omega) (by omega) h_t_beside h_t_bag h_t_up h_t_state (aok hu1_0 hc1)) fun u3 hu3 => ?_
    obtain ⟨hu3_3, -⟩ := hu3
    exact sat_some ⟨hu3_3, trivial⟩
theorem s_X9_best (a1 : Int32) (t_knots : Int32) (t_bags : Int32) (t_q : Int32) (t_allCount : Int64) (t_allBest : Int64) (t_allBests : Int64) (t_weight : Nat → Int32) (t_beside : Nat → Int32) (t_edge : Nat → Int32) (t_bag : Nat → Int32) (t_up : Nat → Int32) (t_factor : Nat → Int32) (t_pairFactor : Nat → Int32) (t_forbidden : Nat → Int32) (t_mayNot : Nat → Int32) (t_fixed : Nat → Int32) (t_state : Nat → Int32) (t_count : Nat → Int64) (t_best : Nat → Int64) (t_bests : Nat → Int64) (h_t_knots : 0 ≤ t_knots.toInt ∧ t_knots.toInt ≤ 14) (h_t_bags : 0 ≤ t_bags.toInt ∧ t_bags.toInt ≤ 14) (h_t_q : 1 ≤ t_q.toInt ∧ t_q.toInt ≤ 4) (h_t_beside : ∀ i, 0 ≤ (t_beside i).toInt ∧ (t_beside i).toInt ≤ 16383) (h_t_bag : ∀ i, 0 ≤ (t_bag i).toInt ∧ (t_bag i).toInt ≤ 16383) (h_t_up : ∀ i, -1 ≤ (t_up i).toInt ∧ (t_up i).toInt ≤ 13) (h_t_state : ∀ i, 0 ≤ (t_state i).toInt ∧ (t_state i).toInt ≤ 3) : Sat (f_X9_best a1 t_knots t_bags t_q t_allCount t_allBest t_allBests t_weight t_beside t_edge t_bag t_up t_factor t_pairFactor t_forbidden t_mayNot t_fixed t_state t_count t_best t_bests) (fun r => (∀ i, 0 ≤ ((r.2.2.2.2.2.1) i).toInt ∧ ((r.2.2.2.2.2.1) i).toInt ≤ 3) ∧ True) := by
  unfold f_X9_best
  have l0 : (0 : Int32).toInt = 0 := rfl
  refine sat_cal (s_X9_isAsked t_knots t_bags t_beside t_bag t_up (by omega) (by omega) h_t_beside h_t_bag h_t_up) fun u1 hu1 => ?_
  obtain ⟨hu1_0, -⟩ := hu1
  refine sat_ite (fun hc1 => ?_) (fun hc1 => ?_)
  · have thc1 := congrArg Int32.toInt hc1
    exact sat_some ⟨h_t_state, trivial⟩
  · have thc1 := neq hc1
    refine sat_cal (s_X9_free t_fixed) fun u2 hu2 => ?_
    refine sat_cal (s_X9_ask a1 t_knots t_bags t_q t_allCount t_allBest t_allBests t_weight t_beside t_edge t_bag t_up t_factor t_pairFactor t_forbidden t_mayNot u2 t_state t_count t_best t_bests (by omega) (by omega) (by omega) h_t_beside h_t_bag h_t_up h_t_state (aok hu1_0 hc1)) fun u3 hu3 => ?_
    obtain ⟨hu3_3, -⟩ := hu3
    refine sat_ite (fun hc2 => ?_) (fun hc2 => ?_)
    · exact sat_some ⟨hu3_3, trivial⟩
    · exact sat_some ⟨hu3_3, trivial⟩
theorem s_X9_bests (a1 : Int32) (t_knots : Int32) (t_bags : Int32) (t_q : Int32) (t_allCount : Int64) (t_allBest : Int64) (t_allBests : Int64) (t_weight : Nat → Int32) (t_beside : Nat → Int32) (t_edge : Nat → Int32) (t_bag : Nat → Int32) (t_up : Nat → Int32) (t_factor : Nat → Int32) (t_pairFactor : Nat → Int32) (t_forbidden : Nat → Int32) (t_mayNot : Nat → Int32) (t_fixed : Nat → Int32) (t_state : Nat → Int32) (t_count : Nat → Int64) (t_best : Nat → Int64) (t_bests : Nat → Int64) (h_t_knots : 0 ≤ t_knots.toInt ∧ t_knots.toInt ≤ 14) (h_t_bags : 0 ≤ t_bags.toInt ∧ t_bags.toInt ≤ 14) (h_t_q : 1 ≤ t_q.toInt ∧ t_q.toInt ≤ 4) (h_t_beside : ∀ i, 0 ≤ (t_beside i).toInt ∧ (t_beside i).toInt ≤ 16383) (h_t_bag : ∀ i, 0 ≤ (t_bag i).toInt ∧ (t_bag i).toInt ≤ 16383) (h_t_up : ∀ i, -1 ≤ (t_up i).toInt ∧ (t_up i).toInt ≤ 13) (h_t_state : ∀ i, 0 ≤ (t_state i).toInt ∧ (t_state i).toInt ≤ 3) : Sat (f_X9_bests a1 t_knots t_bags t_q t_allCount t_allBest t_allBests t_weight t_beside t_edge t_bag t_up t_factor t_pairFactor t_forbidden t_mayNot t_fixed t_state t_count t_best t_bests) (fun r => (∀ i, 0 ≤ ((r.2.2.2.2.2.1) i).toInt ∧ ((r.2.2.2.2.2.1) i).toInt ≤ 3) ∧ True) := by
  unfold f_X9_bests
  have l0 : (0 : Int32).toInt = 0 := rfl
  refine sat_cal (s_X9_isAsked t_knots t_bags t_beside t_bag t_up (by omega) (by omega) h_t_beside h_t_bag h_t_up) fun u1 hu1 => ?_
  obtain ⟨hu1_0, -⟩ := hu1
  refine sat_ite (fun hc1 => ?_) (fun hc1 => ?_)
  · have thc1 := congrArg Int32.toInt hc1
    exact sat_some ⟨h_t_state, trivial⟩
  · have thc1 := neq hc1
    refine sat_cal (s_X9_free t_fixed) fun u2 hu2 => ?_
    refine sat_cal (s_X9_ask a1 t_knots t_bags t_q t_allCount t_allBest t_allBests t_weight t_beside t_edge t_bag t_up t_factor t_pairFactor t_forbidden t_mayNot u2 t_state t_count t_best t_bests (by omega) (by omega) (by omega) h_t_beside h_t_bag h_t_up h_t_state (aok hu1_0 hc1)) fun u3 hu3 => ?_
    obtain ⟨hu3_3, -⟩ := hu3
    refine sat_ite (fun hc2 => ?_) (fun hc2 => ?_)
    · exact sat_some ⟨hu3_3, trivial⟩
    · exact sat_some ⟨hu3_3, trivial⟩
theorem l_X9_choice_60 (a1 : Int32) (a2 : Int32) (t_knots : Int32) (t_bags : Int32) (t_q : Int32) (t_weight : Nat → Int32) (t_beside : Nat → Int32) (t_edge : Nat → Int32) (t_bag : Nat → Int32) (t_up : Nat → Int32) (t_factor : Nat → Int32) (t_pairFactor : Nat → Int32) (t_forbidden : Nat → Int32) (t_mayNot : Nat → Int32) (k_48 : Int64 → Int32 → Int64 → Int64 → Int64 → (Nat → Int32) → (Nat → Int32) → (Nat → Int64) → (Nat → Int64) → (Nat → Int64) → Option (Int32 × Int64 × Int64 × Int64 × (Nat → Int32) × (Nat → Int32) × (Nat → Int64) × (Nat → Int64) × (Nat → Int64))) (g_48 : Int) (h_a2 : 0 ≤ a2.toInt ∧ a2.toInt ≤ 13) (h_t_knots : 0 ≤ t_knots.toInt ∧ t_knots.toInt ≤ 14) (h_t_bags : 0 ≤ t_bags.toInt ∧ t_bags.toInt ≤ 14) (h_t_q : 1 ≤ t_q.toInt ∧ t_q.toInt ≤ 4) (h_t_beside : ∀ i, 0 ≤ (t_beside i).toInt ∧ (t_beside i).toInt ≤ 16383) (h_t_bag : ∀ i, 0 ≤ (t_bag i).toInt ∧ (t_bag i).toInt ≤ 16383) (h_t_up : ∀ i, -1 ≤ (t_up i).toInt ∧ (t_up i).toInt ≤ 13) (hp0 : AskOK t_bags t_bag) (hk_48 : ∀ (x3 : Int64) (x5 : Int32) (t_allCount : Int64) (t_allBest : Int64) (t_allBests : Int64) (t_fixed : Nat → Int32) (t_state : Nat → Int32) (t_count : Nat → Int64) (t_best : Nat → Int64) (t_bests : Nat → Int64), (0 ≤ x5.toInt ∧ x5.toInt ≤ 14) → (∀ i, 0 ≤ (t_state i).toInt ∧ (t_state i).toInt ≤ 3) → (14 - x5.toInt < g_48) → Sat (k_48 x3 x5 t_allCount t_allBest t_allBests t_fixed t_state t_count t_best t_bests) (fun r => (∀ i, 0 ≤ ((r.2.2.2.2.2.1) i).toInt ∧ ((r.2.2.2.2.2.1) i).toInt ≤ 3) ∧ True)) : ∀ (n : Nat) (x3 : Int64) (x5 : Int32) (x6 : Int32) (x7 : Int32) (t_allCount : Int64) (t_allBest : Int64) (t_allBests : Int64) (t_fixed : Nat → Int32) (t_state : Nat → Int32) (t_count : Nat → Int64) (t_best : Nat → Int64) (t_bests : Nat → Int64), (0 ≤ x5.toInt ∧ x5.toInt ≤ 13) → (0 ≤ x7.toInt ∧ x7.toInt ≤ 4) → (∀ i, 0 ≤ (t_state i).toInt ∧ (t_state i).toInt ≤ 3) → (14 - x5.toInt ≤ g_48) → 4 - x7.toInt < (n : Int) → Sat (L_X9_choice_60 a1 a2 t_knots t_bags t_q t_weight t_beside t_edge t_bag t_up t_factor t_pairFactor t_forbidden t_mayNot k_48 n x3 x5 x6 x7 t_allCount t_allBest t_allBests t_fixed t_state t_count t_best t_bests) (fun r => (∀ i, 0 ≤ ((r.2.2.2.2.2.1) i).toInt ∧ ((r.2.2.2.2.2.1) i).toInt ≤ 3) ∧ True) := by
  intro n
  induction n with
  | zero => intro x3 x5 x6 x7 t_allCount t_allBest t_allBests t_fixed t_state t_count t_best t_bests h_x5 h_x7 h_t_state hg_48 hM; exfalso; omega
  | succ n ih =>
    intro x3 x5 x6 x7 t_allCount t_allBest t_allBests t_fixed t_state t_count t_best t_bests h_x5 h_x7 h_t_state hg_48 hM
    rw [L_X9_choice_60]
    have l1 : (1 : Int32).toInt = 1 := rfl
    have l0 : (0 : Int32).toInt = 0 := rfl
    refine sat_ite (fun hc1 => ?_) (fun hc1 => ?_)
    · have thc1 := ple hc1
      refine sat_bnd fun x5_10 e2 => ?_
      try (have k3 : (x5 + (1 : Int32)).toInt = x5.toInt + (1 : Int32).toInt := ti_add (by omega) (by omega))
      have te2 := congrArg Int32.toInt e2
      exact hk_48 x3 x5_10 t_allCount t_allBest t_allBests t_fixed t_state t_count t_best t_bests (by omega) h_t_state (by omega)
    · have thc1 := nle hc1
      refine sat_ite (fun hc4 => ?_) (fun hc4 => ?_)
      · have thc4 := congrArg Int32.toInt hc4
        refine sat_stI (okI_of (by omega)) fun t_fixed_12 e5 => ?_
        refine sat_cal (s_X9_ask a1 t_knots t_bags t_q t_allCount t_allBest t_allBests t_weight t_beside t_edge t_bag t_up t_factor t_pairFactor t_forbidden t_mayNot t_fixed_12 t_state t_count t_best t_bests (by omega) (by omega) (by omega) h_t_beside h_t_bag h_t_up h_t_state hp0) fun u13 hu13 => ?_
        obtain ⟨hu13_3, -⟩ := hu13
        refine sat_ite (fun hc6 => ?_) (fun hc6 => ?_)
        · refine sat_bnd fun x6_14 e7 => ?_
          have te7 := congrArg Int32.toInt e7
          refine sat_bnd fun x7_15 e8 => ?_
          try (have k9 : (x7 + (1 : Int32)).toInt = x7.toInt + (1 : Int32).toInt := ti_add (by omega) (by omega))
          have te8 := congrArg Int32.toInt e8
          exact ih x3 x5 x6_14 x7_15 u13.1 u13.2.1 u13.2.2.1 t_fixed_12 u13.2.2.2.1 u13.2.2.2.2.1 u13.2.2.2.2.2.1 u13.2.2.2.2.2.2 (by omega) (by omega) hu13_3 (by omega) (by omega)
        · refine sat_ite (fun hc10 => ?_) (fun hc10 => ?_)
          · refine sat_bnd fun x6_18 e11 => ?_
            have te11 := congrArg Int32.toInt e11
            refine sat_bnd fun x7_19 e12 => ?_
            try (have k13 : (x7 + (1 : Int32)).toInt = x7.toInt + (1 : Int32).toInt := ti_add (by omega) (by omega))
            have te12 := congrArg Int32.toInt e12
            exact ih x3 x5 x6_18 x7_19 u13.1 u13.2.1 u13.2.2.1 t_fixed_12 u13.2.2.2.1 u13.2.2.2.2.1 u13.2.2.2.2.2.1 u13.2.2.2.2.2.2 (by omega) (by omega) hu13_3 (by omega) (by omega)
          · refine sat_bnd fun x6_16 e14 => ?_
            have te14 := congrArg Int32.toInt e14
            refine sat_bnd fun x7_17 e15 => ?_
            try (have k16 : (x7 + (1 : Int32)).toInt = x7.toInt + (1 : Int32).toInt := ti_add (by omega) (by omega))
            have te15 := congrArg Int32.toInt e15
            exact ih x3 x5 x6_16 x7_17 u13.1 u13.2.1 u13.2.2.1 t_fixed_12 u13.2.2.2.1 u13.2.2.2.2.1 u13.2.2.2.2.2.1 u13.2.2.2.2.2.2 (by omega) (by omega) hu13_3 (by omega) (by omega)
      · have thc4 := neq hc4
        refine sat_bnd fun x5_11 e17 => ?_
        try (have k18 : (x5 + (1 : Int32)).toInt = x5.toInt + (1 : Int32).toInt := ti_add (by omega) (by omega))
        have te17 := congrArg Int32.toInt e17
        exact hk_48 x3 x5_11 t_allCount t_allBest t_allBests t_fixed t_state t_count t_best t_bests (by omega) h_t_state (by omega)
theorem l_X9_choice_48 (a1 : Int32) (a2 : Int32) (t_knots : Int32) (t_bags : Int32) (t_q : Int32) (t_weight : Nat → Int32) (t_beside : Nat → Int32) (t_edge : Nat → Int32) (t_bag : Nat → Int32) (t_up : Nat → Int32) (t_factor : Nat → Int32) (t_pairFactor : Nat → Int32) (t_forbidden : Nat → Int32) (t_mayNot : Nat → Int32) (h_a2 : 0 ≤ a2.toInt ∧ a2.toInt ≤ 13) (h_t_knots : 0 ≤ t_knots.toInt ∧ t_knots.toInt ≤ 14) (h_t_bags : 0 ≤ t_bags.toInt ∧ t_bags.toInt ≤ 14) (h_t_q : 1 ≤ t_q.toInt ∧ t_q.toInt ≤ 4) (h_t_beside : ∀ i, 0 ≤ (t_beside i).toInt ∧ (t_beside i).toInt ≤ 16383) (h_t_bag : ∀ i, 0 ≤ (t_bag i).toInt ∧ (t_bag i).toInt ≤ 16383) (h_t_up : ∀ i, -1 ≤ (t_up i).toInt ∧ (t_up i).toInt ≤ 13) (hp0 : AskOK t_bags t_bag) : ∀ (n : Nat) (x3 : Int64) (x5 : Int32) (t_allCount : Int64) (t_allBest : Int64) (t_allBests : Int64) (t_fixed : Nat → Int32) (t_state : Nat → Int32) (t_count : Nat → Int64) (t_best : Nat → Int64) (t_bests : Nat → Int64), (0 ≤ x5.toInt ∧ x5.toInt ≤ 14) → (∀ i, 0 ≤ (t_state i).toInt ∧ (t_state i).toInt ≤ 3) → 14 - x5.toInt < (n : Int) → Sat (L_X9_choice_48 a1 a2 t_knots t_bags t_q t_weight t_beside t_edge t_bag t_up t_factor t_pairFactor t_forbidden t_mayNot n x3 x5 t_allCount t_allBest t_allBests t_fixed t_state t_count t_best t_bests) (fun r => (∀ i, 0 ≤ ((r.2.2.2.2.2.1) i).toInt ∧ ((r.2.2.2.2.2.1) i).toInt ≤ 3) ∧ True) := by
  intro n
  induction n with
  | zero => intro x3 x5 t_allCount t_allBest t_allBests t_fixed t_state t_count t_best t_bests h_x5 h_t_state hM; exfalso; omega
  | succ n ih =>
    intro x3 x5 t_allCount t_allBest t_allBests t_fixed t_state t_count t_best t_bests h_x5 h_t_state hM
    rw [L_X9_choice_48]
    have l0 : (0 : Int32).toInt = 0 := rfl
    refine sat_ite (fun hc1 => ?_) (fun hc1 => ?_)
    · have thc1 := plt hc1
      refine sat_ldA (okI_of (by omega)) fun v7 e2 => ?_
      exact sat_some ⟨h_t_state, trivial⟩
    · have thc1 := nlt hc1
      refine sat_bnd fun x6_8 e3 => ?_
      have te3 := congrArg Int32.toInt e3
      refine sat_bnd fun x7_9 e4 => ?_
      have te4 := congrArg Int32.toInt e4
      have hNN := NN_i
      exact l_X9_choice_60 a1 a2 t_knots t_bags t_q t_weight t_beside t_edge t_bag t_up t_factor t_pairFactor t_forbidden t_mayNot (fun y0 y1 y2 y3 y4 y5 y6 y7 y8 y9 => L_X9_choice_48 a1 a2 t_knots t_bags t_q t_weight t_beside t_edge t_bag t_up t_factor t_pairFactor t_forbidden t_mayNot n y0 y1 y2 y3 y4 y5 y6 y7 y8 y9) (n : Int) (by omega) (by omega) (by omega) (by omega) h_t_beside h_t_bag h_t_up hp0 (fun y0 y1 y2 y3 y4 y5 y6 y7 y8 y9 z0 z1 zm => ih y0 y1 y2 y3 y4 y5 y6 y7 y8 y9 z0 z1 zm) NN x3 x5 x6_8 x7_9 t_allCount t_allBest t_allBests t_fixed t_state t_count t_best t_bests (by omega) (by omega) h_t_state (by omega) (by omega)
theorem s_X9_choice (a1 : Int32) (a2 : Int32) (t_knots : Int32) (t_bags : Int32) (t_q : Int32) (t_allCount : Int64) (t_allBest : Int64) (t_allBests : Int64) (t_weight : Nat → Int32) (t_beside : Nat → Int32) (t_edge : Nat → Int32) (t_bag : Nat → Int32) (t_up : Nat → Int32) (t_factor : Nat → Int32) (t_pairFactor : Nat → Int32) (t_forbidden : Nat → Int32) (t_mayNot : Nat → Int32) (t_fixed : Nat → Int32) (t_state : Nat → Int32) (t_count : Nat → Int64) (t_best : Nat → Int64) (t_bests : Nat → Int64) (h_t_knots : 0 ≤ t_knots.toInt ∧ t_knots.toInt ≤ 14) (h_t_bags : 0 ≤ t_bags.toInt ∧ t_bags.toInt ≤ 14) (h_t_q : 1 ≤ t_q.toInt ∧ t_q.toInt ≤ 4) (h_t_beside : ∀ i, 0 ≤ (t_beside i).toInt ∧ (t_beside i).toInt ≤ 16383) (h_t_bag : ∀ i, 0 ≤ (t_bag i).toInt ∧ (t_bag i).toInt ≤ 16383) (h_t_up : ∀ i, -1 ≤ (t_up i).toInt ∧ (t_up i).toInt ≤ 13) (h_t_state : ∀ i, 0 ≤ (t_state i).toInt ∧ (t_state i).toInt ≤ 3) : Sat (f_X9_choice a1 a2 t_knots t_bags t_q t_allCount t_allBest t_allBests t_weight t_beside t_edge t_bag t_up t_factor t_pairFactor t_forbidden t_mayNot t_fixed t_state t_count t_best t_bests) (fun r => (∀ i, 0 ≤ ((r.2.2.2.2.2.1) i).toInt ∧ ((r.2.2.2.2.2.1) i).toInt ≤ 3) ∧ True) := by
  unfold f_X9_choice
  have l0 : (0 : Int32).toInt = 0 := rfl
  refine sat_cal (s_X9_isKnot a2 t_knots (by omega)) fun u1 hu1 => ?_
  obtain ⟨hu1_0, -⟩ := hu1
  refine sat_ite (fun hc1 => ?_) (fun hc1 => ?_)
  · have thc1 := congrArg Int32.toInt hc1
    exact sat_some ⟨h_t_state, trivial⟩
  · have thc1 := neq hc1
    refine sat_cal (s_X9_isAsked t_knots t_bags t_beside t_bag t_up (by omega) (by omega) h_t_beside h_t_bag h_t_up) fun u2 hu2 => ?_
    obtain ⟨hu2_0, -⟩ := hu2
    refine sat_ite (fun hc2 => ?_) (fun hc2 => ?_)
    · have thc2 := congrArg Int32.toInt hc2
      exact sat_some ⟨h_t_state, trivial⟩
    · have thc2 := neq hc2
      refine sat_cal (s_X9_free t_fixed) fun u3 hu3 => ?_
      refine sat_cal (s_X9_ask a1 t_knots t_bags t_q t_allCount t_allBest t_allBests t_weight t_beside t_edge t_bag t_up t_factor t_pairFactor t_forbidden t_mayNot u3 t_state t_count t_best t_bests (by omega) (by omega) (by omega) h_t_beside h_t_bag h_t_up h_t_state (aok hu2_0 hc2)) fun u4 hu4 => ?_
      obtain ⟨hu4_3, -⟩ := hu4
      refine sat_ite (fun hc3 => ?_) (fun hc3 => ?_)
      · exact sat_some ⟨hu4_3, trivial⟩
      · refine sat_bnd fun x3_5 e4 => ?_
        refine sat_bnd fun x5_6 e5 => ?_
        have te5 := congrArg Int32.toInt e5
        have hNN := NN_i
        exact l_X9_choice_48 a1 a2 t_knots t_bags t_q t_weight t_beside t_edge t_bag t_up t_factor t_pairFactor t_forbidden t_mayNot (by omega) (by omega) (by omega) (by omega) h_t_beside h_t_bag h_t_up (aok hu2_0 hc2) NN x3_5 x5_6 u4.1 u4.2.1 u4.2.2.1 u3 u4.2.2.2.1 u4.2.2.2.2.1 u4.2.2.2.2.2.1 u4.2.2.2.2.2.2 (by omega) hu4_3 (by omega)
theorem j_X9_drawn_107 (a1 : Int64) (a3 : Int32) (t_knots : Int32) (t_bags : Int32) (t_q : Int32) (t_weight : Nat → Int32) (t_beside : Nat → Int32) (t_edge : Nat → Int32) (t_bag : Nat → Int32) (t_up : Nat → Int32) (t_factor : Nat → Int32) (t_pairFactor : Nat → Int32) (t_forbidden : Nat → Int32) (t_mayNot : Nat → Int32) (k_64 : Int64 → Int32 → Int32 → Int32 → Int64 → Int64 → Int64 → (Nat → Int32) → (Nat → Int32) → (Nat → Int64) → (Nat → Int64) → (Nat → Int64) → Option (Int32 × Int64 × Int64 × Int64 × (Nat → Int32) × (Nat → Int32) × (Nat → Int64) × (Nat → Int64) × (Nat → Int64))) (g_52 : Int) (g_64 : Int) (h_a3 : 0 ≤ a3.toInt ∧ a3.toInt ≤ 13) (h_t_knots : 0 ≤ t_knots.toInt ∧ t_knots.toInt ≤ 14) (h_t_bags : 0 ≤ t_bags.toInt ∧ t_bags.toInt ≤ 14) (h_t_q : 1 ≤ t_q.toInt ∧ t_q.toInt ≤ 4) (h_t_beside : ∀ i, 0 ≤ (t_beside i).toInt ∧ (t_beside i).toInt ≤ 16383) (h_t_bag : ∀ i, 0 ≤ (t_bag i).toInt ∧ (t_bag i).toInt ≤ 16383) (h_t_up : ∀ i, -1 ≤ (t_up i).toInt ∧ (t_up i).toInt ≤ 13) (hp0 : AskOK t_bags t_bag) (hk_64 : ∀ (x4 : Int64) (x6 : Int32) (x7 : Int32) (x8 : Int32) (t_allCount : Int64) (t_allBest : Int64) (t_allBests : Int64) (t_fixed : Nat → Int32) (t_state : Nat → Int32) (t_count : Nat → Int64) (t_best : Nat → Int64) (t_bests : Nat → Int64), (0 ≤ x6.toInt ∧ x6.toInt ≤ 13) → (0 ≤ x8.toInt ∧ x8.toInt ≤ 4) → (∀ i, 0 ≤ (t_state i).toInt ∧ (t_state i).toInt ≤ 3) → (14 - x6.toInt ≤ g_52) → (4 - x8.toInt < g_64) → Sat (k_64 x4 x6 x7 x8 t_allCount t_allBest t_allBests t_fixed t_state t_count t_best t_bests) (fun r => (∀ i, 0 ≤ ((r.2.2.2.2.2.1) i).toInt ∧ ((r.2.2.2.2.2.1) i).toInt ≤ 3) ∧ True)) : ∀ (x4 : Int64) (x6 : Int32) (x8 : Int32) (s0 : Int32) (t_allCount : Int64) (t_allBest : Int64) (t_allBests : Int64) (t_fixed : Nat → Int32) (t_state : Nat → Int32) (t_count : Nat → Int64) (t_best : Nat → Int64) (t_bests : Nat → Int64), (0 ≤ x6.toInt ∧ x6.toInt ≤ 13) → (0 ≤ x8.toInt ∧ x8.toInt ≤ 3) → (∀ i, 0 ≤ (t_state i).toInt ∧ (t_state i).toInt ≤ 3) → (14 - x6.toInt ≤ g_52) → (4 - x8.toInt ≤ g_64) → Sat (J_X9_drawn_107 a1 a3 t_knots t_bags t_q t_weight t_beside t_edge t_bag t_up t_factor t_pairFactor t_forbidden t_mayNot k_64 x4 x6 x8 s0 t_allCount t_allBest t_allBests t_fixed t_state t_count t_best t_bests) (fun r => (∀ i, 0 ≤ ((r.2.2.2.2.2.1) i).toInt ∧ ((r.2.2.2.2.2.1) i).toInt ≤ 3) ∧ True) := by
  intro x4 x6 x8 s0 t_allCount t_allBest t_allBests t_fixed t_state t_count t_best t_bests h_x6 h_x8 h_t_state hg_52 hg_64
  unfold J_X9_drawn_107
  have l0 : (0 : Int32).toInt = 0 := rfl
  have l1 : (1 : Int32).toInt = 1 := rfl
  refine sat_bnd fun x7_14 e1 => ?_
  have te1 := congrArg Int32.toInt e1
  refine sat_ite (fun hc2 => ?_) (fun hc2 => ?_)
  · have thc2 := congrArg Int32.toInt hc2
    refine sat_bnd fun x4_15 e3 => ?_
    refine sat_bnd fun x8_16 e4 => ?_
    try (have k5 : (x8 + (1 : Int32)).toInt = x8.toInt + (1 : Int32).toInt := ti_add (by omega) (by omega))
    have te4 := congrArg Int32.toInt e4
    exact hk_64 x4_15 x6 x7_14 x8_16 t_allCount t_allBest t_allBests t_fixed t_state t_count t_best t_bests (by omega) (by omega) h_t_state (by omega) (by omega)
  · have thc2 := neq hc2
    refine sat_bnd fun x4_17 e6 => ?_
    refine sat_bnd fun x8_18 e7 => ?_
    try (have k8 : (x8 + (1 : Int32)).toInt = x8.toInt + (1 : Int32).toInt := ti_add (by omega) (by omega))
    have te7 := congrArg Int32.toInt e7
    exact hk_64 x4_17 x6 x7_14 x8_18 t_allCount t_allBest t_allBests t_fixed t_state t_count t_best t_bests (by omega) (by omega) h_t_state (by omega) (by omega)
theorem l_X9_drawn_64 (a1 : Int64) (a3 : Int32) (t_knots : Int32) (t_bags : Int32) (t_q : Int32) (t_weight : Nat → Int32) (t_beside : Nat → Int32) (t_edge : Nat → Int32) (t_bag : Nat → Int32) (t_up : Nat → Int32) (t_factor : Nat → Int32) (t_pairFactor : Nat → Int32) (t_forbidden : Nat → Int32) (t_mayNot : Nat → Int32) (k_52 : Int64 → Int32 → Int64 → Int64 → Int64 → (Nat → Int32) → (Nat → Int32) → (Nat → Int64) → (Nat → Int64) → (Nat → Int64) → Option (Int32 × Int64 × Int64 × Int64 × (Nat → Int32) × (Nat → Int32) × (Nat → Int64) × (Nat → Int64) × (Nat → Int64))) (g_52 : Int) (h_a3 : 0 ≤ a3.toInt ∧ a3.toInt ≤ 13) (h_t_knots : 0 ≤ t_knots.toInt ∧ t_knots.toInt ≤ 14) (h_t_bags : 0 ≤ t_bags.toInt ∧ t_bags.toInt ≤ 14) (h_t_q : 1 ≤ t_q.toInt ∧ t_q.toInt ≤ 4) (h_t_beside : ∀ i, 0 ≤ (t_beside i).toInt ∧ (t_beside i).toInt ≤ 16383) (h_t_bag : ∀ i, 0 ≤ (t_bag i).toInt ∧ (t_bag i).toInt ≤ 16383) (h_t_up : ∀ i, -1 ≤ (t_up i).toInt ∧ (t_up i).toInt ≤ 13) (hp0 : AskOK t_bags t_bag) (hk_52 : ∀ (x4 : Int64) (x6 : Int32) (t_allCount : Int64) (t_allBest : Int64) (t_allBests : Int64) (t_fixed : Nat → Int32) (t_state : Nat → Int32) (t_count : Nat → Int64) (t_best : Nat → Int64) (t_bests : Nat → Int64), (0 ≤ x6.toInt ∧ x6.toInt ≤ 14) → (∀ i, 0 ≤ (t_state i).toInt ∧ (t_state i).toInt ≤ 3) → (14 - x6.toInt < g_52) → Sat (k_52 x4 x6 t_allCount t_allBest t_allBests t_fixed t_state t_count t_best t_bests) (fun r => (∀ i, 0 ≤ ((r.2.2.2.2.2.1) i).toInt ∧ ((r.2.2.2.2.2.1) i).toInt ≤ 3) ∧ True)) : ∀ (n : Nat) (x4 : Int64) (x6 : Int32) (x7 : Int32) (x8 : Int32) (t_allCount : Int64) (t_allBest : Int64) (t_allBests : Int64) (t_fixed : Nat → Int32) (t_state : Nat → Int32) (t_count : Nat → Int64) (t_best : Nat → Int64) (t_bests : Nat → Int64), (0 ≤ x6.toInt ∧ x6.toInt ≤ 13) → (0 ≤ x8.toInt ∧ x8.toInt ≤ 4) → (∀ i, 0 ≤ (t_state i).toInt ∧ (t_state i).toInt ≤ 3) → (14 - x6.toInt ≤ g_52) → 4 - x8.toInt < (n : Int) → Sat (L_X9_drawn_64 a1 a3 t_knots t_bags t_q t_weight t_beside t_edge t_bag t_up t_factor t_pairFactor t_forbidden t_mayNot k_52 n x4 x6 x7 x8 t_allCount t_allBest t_allBests t_fixed t_state t_count t_best t_bests) (fun r => (∀ i, 0 ≤ ((r.2.2.2.2.2.1) i).toInt ∧ ((r.2.2.2.2.2.1) i).toInt ≤ 3) ∧ True) := by
  intro n
  induction n with
  | zero => intro x4 x6 x7 x8 t_allCount t_allBest t_allBests t_fixed t_state t_count t_best t_bests h_x6 h_x8 h_t_state hg_52 hM; exfalso; omega
  | succ n ih =>
    intro x4 x6 x7 x8 t_allCount t_allBest t_allBests t_fixed t_state t_count t_best t_bests h_x6 h_x8 h_t_state hg_52 hM
    rw [L_X9_drawn_64]
    have l1 : (1 : Int32).toInt = 1 := rfl
    have l0 : (0 : Int32).toInt = 0 := rfl
    refine sat_ite (fun hc1 => ?_) (fun hc1 => ?_)
    · have thc1 := ple hc1
      refine sat_bnd fun x6_10 e2 => ?_
      try (have k3 : (x6 + (1 : Int32)).toInt = x6.toInt + (1 : Int32).toInt := ti_add (by omega) (by omega))
      have te2 := congrArg Int32.toInt e2
      exact hk_52 x4 x6_10 t_allCount t_allBest t_allBests t_fixed t_state t_count t_best t_bests (by omega) h_t_state (by omega)
    · have thc1 := nle hc1
      refine sat_ite (fun hc4 => ?_) (fun hc4 => ?_)
      · have thc4 := congrArg Int32.toInt hc4
        refine sat_stI (okI_of (by omega)) fun t_fixed_12 e5 => ?_
        refine sat_cal (s_X9_ask (1 : Int32) t_knots t_bags t_q t_allCount t_allBest t_allBests t_weight t_beside t_edge t_bag t_up t_factor t_pairFactor t_forbidden t_mayNot t_fixed_12 t_state t_count t_best t_bests (by omega) (by omega) (by omega) h_t_beside h_t_bag h_t_up h_t_state hp0) fun u13 hu13 => ?_
        obtain ⟨hu13_3, -⟩ := hu13
        refine sat_ite (fun hc6 => ?_) (fun hc6 => ?_)
        · exact j_X9_drawn_107 a1 a3 t_knots t_bags t_q t_weight t_beside t_edge t_bag t_up t_factor t_pairFactor t_forbidden t_mayNot (fun y0 y1 y2 y3 y4 y5 y6 y7 y8 y9 y10 y11 => L_X9_drawn_64 a1 a3 t_knots t_bags t_q t_weight t_beside t_edge t_bag t_up t_factor t_pairFactor t_forbidden t_mayNot k_52 n y0 y1 y2 y3 y4 y5 y6 y7 y8 y9 y10 y11) g_52 (n : Int) (by omega) (by omega) (by omega) (by omega) h_t_beside h_t_bag h_t_up hp0 (fun y0 y1 y2 y3 y4 y5 y6 y7 y8 y9 y10 y11 z0 z1 z2 z3 zm => ih y0 y1 y2 y3 y4 y5 y6 y7 y8 y9 y10 y11 z0 z1 z2 z3 zm) x4 x6 x8 (0 : Int32) u13.1 u13.2.1 u13.2.2.1 t_fixed_12 u13.2.2.2.1 u13.2.2.2.2.1 u13.2.2.2.2.2.1 u13.2.2.2.2.2.2 (by omega) (by omega) hu13_3 (by omega) (by omega)
        · exact j_X9_drawn_107 a1 a3 t_knots t_bags t_q t_weight t_beside t_edge t_bag t_up t_factor t_pairFactor t_forbidden t_mayNot (fun y0 y1 y2 y3 y4 y5 y6 y7 y8 y9 y10 y11 => L_X9_drawn_64 a1 a3 t_knots t_bags t_q t_weight t_beside t_edge t_bag t_up t_factor t_pairFactor t_forbidden t_mayNot k_52 n y0 y1 y2 y3 y4 y5 y6 y7 y8 y9 y10 y11) g_52 (n : Int) (by omega) (by omega) (by omega) (by omega) h_t_beside h_t_bag h_t_up hp0 (fun y0 y1 y2 y3 y4 y5 y6 y7 y8 y9 y10 y11 z0 z1 z2 z3 zm => ih y0 y1 y2 y3 y4 y5 y6 y7 y8 y9 y10 y11 z0 z1 z2 z3 zm) x4 x6 x8 (1 : Int32) u13.1 u13.2.1 u13.2.2.1 t_fixed_12 u13.2.2.2.1 u13.2.2.2.2.1 u13.2.2.2.2.2.1 u13.2.2.2.2.2.2 (by omega) (by omega) hu13_3 (by omega) (by omega)
      · have thc4 := neq hc4
        refine sat_bnd fun x6_11 e7 => ?_
        try (have k8 : (x6 + (1 : Int32)).toInt = x6.toInt + (1 : Int32).toInt := ti_add (by omega) (by omega))
        have te7 := congrArg Int32.toInt e7
        exact hk_52 x4 x6_11 t_allCount t_allBest t_allBests t_fixed t_state t_count t_best t_bests (by omega) h_t_state (by omega)
theorem l_X9_drawn_52 (a1 : Int64) (a3 : Int32) (t_knots : Int32) (t_bags : Int32) (t_q : Int32) (t_weight : Nat → Int32) (t_beside : Nat → Int32) (t_edge : Nat → Int32) (t_bag : Nat → Int32) (t_up : Nat → Int32) (t_factor : Nat → Int32) (t_pairFactor : Nat → Int32) (t_forbidden : Nat → Int32) (t_mayNot : Nat → Int32) (h_a3 : 0 ≤ a3.toInt ∧ a3.toInt ≤ 13) (h_t_knots : 0 ≤ t_knots.toInt ∧ t_knots.toInt ≤ 14) (h_t_bags : 0 ≤ t_bags.toInt ∧ t_bags.toInt ≤ 14) (h_t_q : 1 ≤ t_q.toInt ∧ t_q.toInt ≤ 4) (h_t_beside : ∀ i, 0 ≤ (t_beside i).toInt ∧ (t_beside i).toInt ≤ 16383) (h_t_bag : ∀ i, 0 ≤ (t_bag i).toInt ∧ (t_bag i).toInt ≤ 16383) (h_t_up : ∀ i, -1 ≤ (t_up i).toInt ∧ (t_up i).toInt ≤ 13) (hp0 : AskOK t_bags t_bag) : ∀ (n : Nat) (x4 : Int64) (x6 : Int32) (t_allCount : Int64) (t_allBest : Int64) (t_allBests : Int64) (t_fixed : Nat → Int32) (t_state : Nat → Int32) (t_count : Nat → Int64) (t_best : Nat → Int64) (t_bests : Nat → Int64), (0 ≤ x6.toInt ∧ x6.toInt ≤ 14) → (∀ i, 0 ≤ (t_state i).toInt ∧ (t_state i).toInt ≤ 3) → 14 - x6.toInt < (n : Int) → Sat (L_X9_drawn_52 a1 a3 t_knots t_bags t_q t_weight t_beside t_edge t_bag t_up t_factor t_pairFactor t_forbidden t_mayNot n x4 x6 t_allCount t_allBest t_allBests t_fixed t_state t_count t_best t_bests) (fun r => (∀ i, 0 ≤ ((r.2.2.2.2.2.1) i).toInt ∧ ((r.2.2.2.2.2.1) i).toInt ≤ 3) ∧ True) := by
  intro n
  induction n with
  | zero => intro x4 x6 t_allCount t_allBest t_allBests t_fixed t_state t_count t_best t_bests h_x6 h_t_state hM; exfalso; omega
  | succ n ih =>
    intro x4 x6 t_allCount t_allBest t_allBests t_fixed t_state t_count t_best t_bests h_x6 h_t_state hM
    rw [L_X9_drawn_52]
    have l0 : (0 : Int32).toInt = 0 := rfl
    refine sat_ite (fun hc1 => ?_) (fun hc1 => ?_)
    · have thc1 := plt hc1
      refine sat_ldA (okI_of (by omega)) fun v7 e2 => ?_
      exact sat_some ⟨h_t_state, trivial⟩
    · have thc1 := nlt hc1
      refine sat_bnd fun x7_8 e3 => ?_
      have te3 := congrArg Int32.toInt e3
      refine sat_bnd fun x8_9 e4 => ?_
      have te4 := congrArg Int32.toInt e4
      have hNN := NN_i
      exact l_X9_drawn_64 a1 a3 t_knots t_bags t_q t_weight t_beside t_edge t_bag t_up t_factor t_pairFactor t_forbidden t_mayNot (fun y0 y1 y2 y3 y4 y5 y6 y7 y8 y9 => L_X9_drawn_52 a1 a3 t_knots t_bags t_q t_weight t_beside t_edge t_bag t_up t_factor t_pairFactor t_forbidden t_mayNot n y0 y1 y2 y3 y4 y5 y6 y7 y8 y9) (n : Int) (by omega) (by omega) (by omega) (by omega) h_t_beside h_t_bag h_t_up hp0 (fun y0 y1 y2 y3 y4 y5 y6 y7 y8 y9 z0 z1 zm => ih y0 y1 y2 y3 y4 y5 y6 y7 y8 y9 z0 z1 zm) NN x4 x6 x7_8 x8_9 t_allCount t_allBest t_allBests t_fixed t_state t_count t_best t_bests (by omega) (by omega) h_t_state (by omega) (by omega)
theorem s_X9_drawn (a1 : Int64) (a3 : Int32) (t_knots : Int32) (t_bags : Int32) (t_q : Int32) (t_allCount : Int64) (t_allBest : Int64) (t_allBests : Int64) (t_weight : Nat → Int32) (t_beside : Nat → Int32) (t_edge : Nat → Int32) (t_bag : Nat → Int32) (t_up : Nat → Int32) (t_factor : Nat → Int32) (t_pairFactor : Nat → Int32) (t_forbidden : Nat → Int32) (t_mayNot : Nat → Int32) (t_fixed : Nat → Int32) (t_state : Nat → Int32) (t_count : Nat → Int64) (t_best : Nat → Int64) (t_bests : Nat → Int64) (h_t_knots : 0 ≤ t_knots.toInt ∧ t_knots.toInt ≤ 14) (h_t_bags : 0 ≤ t_bags.toInt ∧ t_bags.toInt ≤ 14) (h_t_q : 1 ≤ t_q.toInt ∧ t_q.toInt ≤ 4) (h_t_beside : ∀ i, 0 ≤ (t_beside i).toInt ∧ (t_beside i).toInt ≤ 16383) (h_t_bag : ∀ i, 0 ≤ (t_bag i).toInt ∧ (t_bag i).toInt ≤ 16383) (h_t_up : ∀ i, -1 ≤ (t_up i).toInt ∧ (t_up i).toInt ≤ 13) (h_t_state : ∀ i, 0 ≤ (t_state i).toInt ∧ (t_state i).toInt ≤ 3) : Sat (f_X9_drawn a1 a3 t_knots t_bags t_q t_allCount t_allBest t_allBests t_weight t_beside t_edge t_bag t_up t_factor t_pairFactor t_forbidden t_mayNot t_fixed t_state t_count t_best t_bests) (fun r => (∀ i, 0 ≤ ((r.2.2.2.2.2.1) i).toInt ∧ ((r.2.2.2.2.2.1) i).toInt ≤ 3) ∧ True) := by
  unfold f_X9_drawn
  have l0 : (0 : Int32).toInt = 0 := rfl
  refine sat_cal (s_X9_isKnot a3 t_knots (by omega)) fun u1 hu1 => ?_
  obtain ⟨hu1_0, -⟩ := hu1
  refine sat_ite (fun hc1 => ?_) (fun hc1 => ?_)
  · have thc1 := congrArg Int32.toInt hc1
    exact sat_some ⟨h_t_state, trivial⟩
  · have thc1 := neq hc1
    refine sat_cal (s_X9_isAsked t_knots t_bags t_beside t_bag t_up (by omega) (by omega) h_t_beside h_t_bag h_t_up) fun u2 hu2 => ?_
    obtain ⟨hu2_0, -⟩ := hu2
    refine sat_ite (fun hc2 => ?_) (fun hc2 => ?_)
    · have thc2 := congrArg Int32.toInt hc2
      exact sat_some ⟨h_t_state, trivial⟩
    · have thc2 := neq hc2
      refine sat_cal (s_X9_free t_fixed) fun u3 hu3 => ?_
      refine sat_cal (s_X9_ask (1 : Int32) t_knots t_bags t_q t_allCount t_allBest t_allBests t_weight t_beside t_edge t_bag t_up t_factor t_pairFactor t_forbidden t_mayNot u3 t_state t_count t_best t_bests (by omega) (by omega) (by omega) h_t_beside h_t_bag h_t_up h_t_state (aok hu2_0 hc2)) fun u4 hu4 => ?_
      obtain ⟨hu4_3, -⟩ := hu4
      refine sat_ite (fun hc3 => ?_) (fun hc3 => ?_)
      · exact sat_some ⟨hu4_3, trivial⟩
      · refine sat_ite (fun hc4 => ?_) (fun hc4 => ?_)
        · refine sat_bnd fun x4_5 e5 => ?_
          refine sat_bnd fun x6_6 e6 => ?_
          have te6 := congrArg Int32.toInt e6
          have hNN := NN_i
          exact l_X9_drawn_52 a1 a3 t_knots t_bags t_q t_weight t_beside t_edge t_bag t_up t_factor t_pairFactor t_forbidden t_mayNot (by omega) (by omega) (by omega) (by omega) h_t_beside h_t_bag h_t_up (aok hu2_0 hc2) NN x4_5 x6_6 u4.1 u4.2.1 u4.2.2.1 u3 u4.2.2.2.1 u4.2.2.2.2.1 u4.2.2.2.2.2.1 u4.2.2.2.2.2.2 (by omega) hu4_3 (by omega)
        · exact sat_some ⟨hu4_3, trivial⟩
theorem s_X9_share (a1 : Int32) (a2 : Int32) (t_knots : Int32) (t_bags : Int32) (t_q : Int32) (t_allCount : Int64) (t_allBest : Int64) (t_allBests : Int64) (t_weight : Nat → Int32) (t_beside : Nat → Int32) (t_edge : Nat → Int32) (t_bag : Nat → Int32) (t_up : Nat → Int32) (t_factor : Nat → Int32) (t_pairFactor : Nat → Int32) (t_forbidden : Nat → Int32) (t_mayNot : Nat → Int32) (t_fixed : Nat → Int32) (t_state : Nat → Int32) (t_count : Nat → Int64) (t_best : Nat → Int64) (t_bests : Nat → Int64) (h_t_knots : 0 ≤ t_knots.toInt ∧ t_knots.toInt ≤ 14) (h_t_bags : 0 ≤ t_bags.toInt ∧ t_bags.toInt ≤ 14) (h_t_q : 1 ≤ t_q.toInt ∧ t_q.toInt ≤ 4) (h_t_beside : ∀ i, 0 ≤ (t_beside i).toInt ∧ (t_beside i).toInt ≤ 16383) (h_t_bag : ∀ i, 0 ≤ (t_bag i).toInt ∧ (t_bag i).toInt ≤ 16383) (h_t_up : ∀ i, -1 ≤ (t_up i).toInt ∧ (t_up i).toInt ≤ 13) (h_t_state : ∀ i, 0 ≤ (t_state i).toInt ∧ (t_state i).toInt ≤ 3) : Sat (f_X9_share a1 a2 t_knots t_bags t_q t_allCount t_allBest t_allBests t_weight t_beside t_edge t_bag t_up t_factor t_pairFactor t_forbidden t_mayNot t_fixed t_state t_count t_best t_bests) (fun r => (∀ i, 0 ≤ ((r.2.2.2.2.2.1) i).toInt ∧ ((r.2.2.2.2.2.1) i).toInt ≤ 3) ∧ True) := by
  unfold f_X9_share
  have l0 : (0 : Int32).toInt = 0 := rfl
  refine sat_cal (s_X9_isAsked t_knots t_bags t_beside t_bag t_up (by omega) (by omega) h_t_beside h_t_bag h_t_up) fun u1 hu1 => ?_
  obtain ⟨hu1_0, -⟩ := hu1
  refine sat_ite (fun hc1 => ?_) (fun hc1 => ?_)
  · have thc1 := congrArg Int32.toInt hc1
    exact sat_some ⟨h_t_state, trivial⟩
  · have thc1 := neq hc1
    refine sat_cal (s_X9_isKnot a1 t_knots (by omega)) fun u2 hu2 => ?_
    obtain ⟨hu2_0, -⟩ := hu2
    refine sat_ite (fun hc2 => ?_) (fun hc2 => ?_)
    · have thc2 := congrArg Int32.toInt hc2
      exact sat_some ⟨h_t_state, trivial⟩
    · have thc2 := neq hc2
      refine sat_cal (s_X9_isState a2 t_q (by omega)) fun u3 hu3 => ?_
      obtain ⟨hu3_0, -⟩ := hu3
      refine sat_ite (fun hc3 => ?_) (fun hc3 => ?_)
      · have thc3 := congrArg Int32.toInt hc3
        exact sat_some ⟨h_t_state, trivial⟩
      · have thc3 := neq hc3
        refine sat_cal (s_X9_free t_fixed) fun u4 hu4 => ?_
        refine sat_stI (okI_of (by omega)) fun t_fixed_5 e4 => ?_
        refine sat_cal (s_X9_ask (1 : Int32) t_knots t_bags t_q t_allCount t_allBest t_allBests t_weight t_beside t_edge t_bag t_up t_factor t_pairFactor t_forbidden t_mayNot t_fixed_5 t_state t_count t_best t_bests (by omega) (by omega) (by omega) h_t_beside h_t_bag h_t_up h_t_state (aok hu1_0 hc1)) fun u6 hu6 => ?_
        obtain ⟨hu6_3, -⟩ := hu6
        exact sat_some ⟨hu6_3, trivial⟩
