theorem s_X8_hasBit (a0 : Int32) (a1 : Int32) : Sat (f_X8_hasBit a0 a1) (fun r => (0 ≤ r.toInt ∧ r.toInt ≤ 1) ∧ True) := by
  unfold f_X8_hasBit
  have l0 : (0 : Int32).toInt = 0 := rfl
  have l1 : (1 : Int32).toInt = 1 := rfl
  refine sat_ite (fun hc1 => ?_) (fun hc1 => ?_)
  · have thc1 := congrArg Int32.toInt hc1
    exact sat_some ⟨(by omega), trivial⟩
  · have thc1 := neq hc1
    exact sat_some ⟨(by omega), trivial⟩
theorem s_J6_bitCount_0f7a4 (a0 : Int32) : Sat (f_J6_bitCount_0f7a4 a0) (fun r => (0 ≤ r.toInt ∧ r.toInt ≤ 63) ∧ True) := by
  unfold f_J6_bitCount_0f7a4
  refine sat_bnd fun x1 _ => ?_
  refine sat_bnd fun x2 _ => ?_
  refine sat_bnd fun x3 _ => ?_
  refine sat_bnd fun x4 _ => ?_
  refine sat_bnd fun x5 _ => ?_
  have l : (63 : Int32).toInt = 63 := rfl
  exact sat_some ⟨and_rg2 rfl (by omega), trivial⟩
theorem s_X8_isWeight (a0 : Int32) : Sat (f_X8_isWeight a0) (fun r => (0 ≤ r.toInt ∧ r.toInt ≤ 1) ∧ True) := by
  unfold f_X8_isWeight
  have l0 : (0 : Int32).toInt = 0 := rfl
  have l1000 : (1000 : Int32).toInt = 1000 := rfl
  have l1 : (1 : Int32).toInt = 1 := rfl
  refine sat_ite (fun hc1 => ?_) (fun hc1 => ?_)
  · have thc1 := plt hc1
    exact sat_some ⟨(by omega), trivial⟩
  · have thc1 := nlt hc1
    refine sat_ite (fun hc2 => ?_) (fun hc2 => ?_)
    · have thc2 := plt hc2
      exact sat_some ⟨(by omega), trivial⟩
    · have thc2 := nlt hc2
      exact sat_some ⟨(by omega), trivial⟩
theorem s_X8_isFactor (a0 : Int32) : Sat (f_X8_isFactor a0) (fun r => (0 ≤ r.toInt ∧ r.toInt ≤ 1) ∧ True) := by
  unfold f_X8_isFactor
  have lm10 : (-10 : Int32).toInt = -10 := rfl
  have l0 : (0 : Int32).toInt = 0 := rfl
  have l10 : (10 : Int32).toInt = 10 := rfl
  have l1 : (1 : Int32).toInt = 1 := rfl
  refine sat_ite (fun hc1 => ?_) (fun hc1 => ?_)
  · have thc1 := plt hc1
    exact sat_some ⟨(by omega), trivial⟩
  · have thc1 := nlt hc1
    refine sat_ite (fun hc2 => ?_) (fun hc2 => ?_)
    · have thc2 := plt hc2
      exact sat_some ⟨(by omega), trivial⟩
    · have thc2 := nlt hc2
      exact sat_some ⟨(by omega), trivial⟩
theorem s_X8_signOf (a0 : Int32) : Sat (f_X8_signOf a0) (fun r => (-1 ≤ r.toInt ∧ r.toInt ≤ 1) ∧ True) := by
  unfold f_X8_signOf
  have l0 : (0 : Int32).toInt = 0 := rfl
  have lm1 : (-1 : Int32).toInt = -1 := rfl
  have l1 : (1 : Int32).toInt = 1 := rfl
  refine sat_ite (fun hc1 => ?_) (fun hc1 => ?_)
  · have thc1 := congrArg Int32.toInt hc1
    exact sat_some ⟨(by omega), trivial⟩
  · have thc1 := neq hc1
    exact sat_some ⟨(by omega), trivial⟩
theorem l_X2_nextPlace_4 (a1 : Int32) (a2 : Int32) (t_size : Int32) (t_knots : Nat → Int32) (h_a1 : 0 ≤ a1.toInt ∧ a1.toInt ≤ 13) (h_t_size : 0 ≤ t_size.toInt ∧ t_size.toInt ≤ 14) (h_t_knots : ∀ i, 0 ≤ (t_knots i).toInt ∧ (t_knots i).toInt ≤ 13) : ∀ (n : Nat) (x3 : Int32), (1 ≤ x3.toInt ∧ x3.toInt ≤ 14) → 14 - x3.toInt < (n : Int) → Sat (L_X2_nextPlace_4 a1 a2 t_size t_knots n x3) (fun r => True) := by
  intro n
  induction n with
  | zero => intro x3 h_x3 hM; exfalso; omega
  | succ n ih =>
    intro x3 h_x3 hM
    rw [L_X2_nextPlace_4]
    have l1 : (1 : Int32).toInt = 1 := rfl
    have l0 : (0 : Int32).toInt = 0 := rfl
    refine sat_ite (fun hc1 => ?_) (fun hc1 => ?_)
    · have thc1 := ple hc1
      try (have k3 : (a1 + (1 : Int32)).toInt = a1.toInt + (1 : Int32).toInt := ti_add (by omega) (by omega))
      refine sat_ite (fun hc2 => ?_) (fun hc2 => ?_)
      · have thc2 := ple hc2
        exact sat_some trivial
      · have thc2 := nle hc2
        exact sat_some trivial
    · have thc1 := nle hc1
      refine sat_ldA (okI_of (by omega)) fun v2 e4 => ?_
      have hv2 := ra_get e4 h_t_knots
      refine sat_cal (s_X8_hasBit a2 v2) fun u3 hu3 => ?_
      obtain ⟨hu3_0, -⟩ := hu3
      refine sat_ite (fun hc5 => ?_) (fun hc5 => ?_)
      · have thc5 := congrArg Int32.toInt hc5
        refine sat_bnd fun x3_4 e6 => ?_
        try (have k7 : (x3 + (1 : Int32)).toInt = x3.toInt + (1 : Int32).toInt := ti_add (by omega) (by omega))
        have te6 := congrArg Int32.toInt e6
        exact ih x3_4 (by omega) (by omega)
      · have thc5 := neq hc5
        exact sat_some trivial
theorem s_X2_nextPlace (a1 : Int32) (a2 : Int32) (t_size : Int32) (t_knots : Nat → Int32) (h_a1 : 0 ≤ a1.toInt ∧ a1.toInt ≤ 13) (h_t_size : 0 ≤ t_size.toInt ∧ t_size.toInt ≤ 14) (h_t_knots : ∀ i, 0 ≤ (t_knots i).toInt ∧ (t_knots i).toInt ≤ 13) : Sat (f_X2_nextPlace a1 a2 t_size t_knots) (fun r => True) := by
  unfold f_X2_nextPlace
  have l1 : (1 : Int32).toInt = 1 := rfl
  refine sat_bnd fun x3_1 e1 => ?_
  try (have k2 : (a1 + (1 : Int32)).toInt = a1.toInt + (1 : Int32).toInt := ti_add (by omega) (by omega))
  have te1 := congrArg Int32.toInt e1
  have hNN := NN_i
  exact l_X2_nextPlace_4 a1 a2 t_size t_knots (by omega) (by omega) h_t_knots NN x3_1 (by omega) (by omega)
theorem s_X4_has (a1 : Int32) (t_size : Int32) (h_t_size : 0 ≤ t_size.toInt ∧ t_size.toInt ≤ 14) : Sat (f_X4_has a1 t_size) (fun r => ((r.toInt = 0 ∨ (0 ≤ a1.toInt ∧ a1.toInt < t_size.toInt)) ∧ 0 ≤ r.toInt ∧ r.toInt ≤ 1) ∧ True) := by
  unfold f_X4_has
  have l0 : (0 : Int32).toInt = 0 := rfl
  have l1 : (1 : Int32).toInt = 1 := rfl
  refine sat_ite (fun hc1 => ?_) (fun hc1 => ?_)
  · have thc1 := plt hc1
    exact sat_some ⟨(by omega), trivial⟩
  · have thc1 := nlt hc1
    refine sat_ite (fun hc2 => ?_) (fun hc2 => ?_)
    · have thc2 := ple hc2
      exact sat_some ⟨(by omega), trivial⟩
    · have thc2 := nle hc2
      exact sat_some ⟨(by omega), trivial⟩
theorem s_X4_joined (a1 : Int32) (a2 : Int32) (t_size : Int32) (t_near : Nat → Int32) (h_t_size : 0 ≤ t_size.toInt ∧ t_size.toInt ≤ 14) : Sat (f_X4_joined a1 a2 t_size t_near) (fun r => ((r.toInt = 0 ∨ (0 ≤ a1.toInt ∧ a1.toInt < t_size.toInt ∧ 0 ≤ a2.toInt ∧ a2.toInt < t_size.toInt)) ∧ 0 ≤ r.toInt ∧ r.toInt ≤ 1) ∧ True) := by
  unfold f_X4_joined
  have l0 : (0 : Int32).toInt = 0 := rfl
  have l1 : (1 : Int32).toInt = 1 := rfl
  refine sat_cal (s_X4_has a1 t_size (by omega)) fun u1 hu1 => ?_
  obtain ⟨hu1_0, -⟩ := hu1
  refine sat_ite (fun hc1 => ?_) (fun hc1 => ?_)
  · have thc1 := congrArg Int32.toInt hc1
    exact sat_some ⟨(by omega), trivial⟩
  · have thc1 := neq hc1
    refine sat_cal (s_X4_has a2 t_size (by omega)) fun u2 hu2 => ?_
    obtain ⟨hu2_0, -⟩ := hu2
    refine sat_ite (fun hc2 => ?_) (fun hc2 => ?_)
    · have thc2 := congrArg Int32.toInt hc2
      exact sat_some ⟨(by omega), trivial⟩
    · have thc2 := neq hc2
      refine sat_ldA (okI_of (by omega)) fun v3 e3 => ?_
      refine sat_cal (s_X8_hasBit v3 a2) fun u4 hu4 => ?_
      obtain ⟨hu4_0, -⟩ := hu4
      refine sat_ite (fun hc4 => ?_) (fun hc4 => ?_)
      · have thc4 := congrArg Int32.toInt hc4
        exact sat_some ⟨(by omega), trivial⟩
      · have thc4 := neq hc4
        exact sat_some ⟨(by omega), trivial⟩
theorem s_X2_holds (a1 : Int32) (t_held : Int32) : Sat (f_X2_holds a1 t_held) (fun r => (0 ≤ r.toInt ∧ r.toInt ≤ 1) ∧ True) := by
  unfold f_X2_holds
  refine sat_cal (s_X8_hasBit t_held a1) fun u1 hu1 => ?_
  obtain ⟨hu1_0, -⟩ := hu1
  refine sat_chk (b01 (by omega)) ?_
  exact sat_some ⟨(by omega), trivial⟩
theorem s_X2_append (a1 : Int32) (t_size : Int32) (t_held : Int32) (t_knots : Nat → Int32) (h_a1 : 0 ≤ a1.toInt ∧ a1.toInt ≤ 13) (h_t_size : 0 ≤ t_size.toInt ∧ t_size.toInt ≤ 14) (h_t_knots : ∀ i, 0 ≤ (t_knots i).toInt ∧ (t_knots i).toInt ≤ 13) : Sat (f_X2_append a1 t_size t_held t_knots) (fun r => (0 ≤ (r.1).toInt ∧ (r.1).toInt ≤ 14) ∧ (∀ i, 0 ≤ ((r.2.2) i).toInt ∧ ((r.2.2) i).toInt ≤ 13) ∧ True) := by
  unfold f_X2_append
  have l14 : (14 : Int32).toInt = 14 := rfl
  have l1 : (1 : Int32).toInt = 1 := rfl
  refine sat_ite (fun hc1 => ?_) (fun hc1 => ?_)
  · have thc1 := plt hc1
    refine sat_stI (okI_of (by omega)) fun t_knots_1 e2 => ?_
    have h_t_knots_1 := ra_upd e2 h_t_knots (by omega)
    refine sat_bnd fun t_size_2 e3 => ?_
    try (have k4 : (t_size + (1 : Int32)).toInt = t_size.toInt + (1 : Int32).toInt := ti_add (by omega) (by omega))
    have te3 := congrArg Int32.toInt e3
    refine sat_bnd fun t_held_3 e5 => ?_
    exact sat_some ⟨(by (try dsimp only); omega), h_t_knots_1, trivial⟩
  · have thc1 := nlt hc1
    exact sat_some ⟨(by (try dsimp only); omega), h_t_knots, trivial⟩
theorem s_X2_empty (t_size : Int32) (t_held : Int32) (h_t_size : 0 ≤ t_size.toInt ∧ t_size.toInt ≤ 14) : Sat (f_X2_empty t_size t_held) (fun r => (0 ≤ (r.1).toInt ∧ (r.1).toInt ≤ 14) ∧ True) := by
  unfold f_X2_empty
  have l0 : (0 : Int32).toInt = 0 := rfl
  refine sat_bnd fun t_size_1 e1 => ?_
  have te1 := congrArg Int32.toInt e1
  refine sat_bnd fun t_held_2 e2 => ?_
  have te2 := congrArg Int32.toInt e2
  exact sat_some ⟨(by (try dsimp only); omega), trivial⟩
theorem s_X3_has (a1 : Int32) (t_size : Int32) (h_t_size : 1 ≤ t_size.toInt ∧ t_size.toInt ≤ 4) : Sat (f_X3_has a1 t_size) (fun r => ((r.toInt = 0 ∨ (0 ≤ a1.toInt ∧ a1.toInt < t_size.toInt)) ∧ 0 ≤ r.toInt ∧ r.toInt ≤ 1) ∧ True) := by
  unfold f_X3_has
  have l0 : (0 : Int32).toInt = 0 := rfl
  have l1 : (1 : Int32).toInt = 1 := rfl
  refine sat_ite (fun hc1 => ?_) (fun hc1 => ?_)
  · have thc1 := plt hc1
    exact sat_some ⟨(by omega), trivial⟩
  · have thc1 := nlt hc1
    refine sat_ite (fun hc2 => ?_) (fun hc2 => ?_)
    · have thc2 := ple hc2
      exact sat_some ⟨(by omega), trivial⟩
    · have thc2 := nle hc2
      exact sat_some ⟨(by omega), trivial⟩
theorem l_X3_startAgain_62 (a1 : Int32) (h_a1 : 1 ≤ a1.toInt ∧ a1.toInt ≤ 4) : ∀ (n : Nat) (x2 : Int32) (t_size : Int32) (t_factors : Nat → Int32) (t_pairFactors : Nat → Int32) (t_barred : Nat → Int32) (t_forbidden : Nat → Int32), (0 ≤ x2.toInt ∧ x2.toInt ≤ 14) → (1 ≤ t_size.toInt ∧ t_size.toInt ≤ 4) → 14 - x2.toInt < (n : Int) → Sat (L_X3_startAgain_62 a1 n x2 t_size t_factors t_pairFactors t_barred t_forbidden) (fun r => (1 ≤ (r.1).toInt ∧ (r.1).toInt ≤ 4) ∧ True) := by
  intro n
  induction n with
  | zero => intro x2 t_size t_factors t_pairFactors t_barred t_forbidden h_x2 h_t_size hM; exfalso; omega
  | succ n ih =>
    intro x2 t_size t_factors t_pairFactors t_barred t_forbidden h_x2 h_t_size hM
    rw [L_X3_startAgain_62]
    have l14 : (14 : Int32).toInt = 14 := rfl
    have l1 : (1 : Int32).toInt = 1 := rfl
    refine sat_ite (fun hc1 => ?_) (fun hc1 => ?_)
    · have thc1 := ple hc1
      exact sat_some ⟨(by (try dsimp only); omega), trivial⟩
    · have thc1 := nle hc1
      refine sat_stI (okI_of (by omega)) fun t_forbidden_5 e2 => ?_
      refine sat_bnd fun x2_6 e3 => ?_
      try (have k4 : (x2 + (1 : Int32)).toInt = x2.toInt + (1 : Int32).toInt := ti_add (by omega) (by omega))
      have te3 := congrArg Int32.toInt e3
      exact ih x2_6 t_size t_factors t_pairFactors t_barred t_forbidden_5 (by omega) (by omega) (by omega)
theorem l_X3_startAgain_31 (a1 : Int32) (h_a1 : 1 ≤ a1.toInt ∧ a1.toInt ≤ 4) : ∀ (n : Nat) (x2 : Int32) (t_size : Int32) (t_factors : Nat → Int32) (t_pairFactors : Nat → Int32) (t_barred : Nat → Int32) (t_forbidden : Nat → Int32), (0 ≤ x2.toInt ∧ x2.toInt ≤ 16) → (1 ≤ t_size.toInt ∧ t_size.toInt ≤ 4) → 16 - x2.toInt < (n : Int) → Sat (L_X3_startAgain_31 a1 n x2 t_size t_factors t_pairFactors t_barred t_forbidden) (fun r => (1 ≤ (r.1).toInt ∧ (r.1).toInt ≤ 4) ∧ True) := by
  intro n
  induction n with
  | zero => intro x2 t_size t_factors t_pairFactors t_barred t_forbidden h_x2 h_t_size hM; exfalso; omega
  | succ n ih =>
    intro x2 t_size t_factors t_pairFactors t_barred t_forbidden h_x2 h_t_size hM
    rw [L_X3_startAgain_31]
    have l16 : (16 : Int32).toInt = 16 := rfl
    have l0 : (0 : Int32).toInt = 0 := rfl
    have l1 : (1 : Int32).toInt = 1 := rfl
    refine sat_ite (fun hc1 => ?_) (fun hc1 => ?_)
    · have thc1 := ple hc1
      refine sat_bnd fun x2_4 e2 => ?_
      have te2 := congrArg Int32.toInt e2
      have hNN := NN_i
      exact l_X3_startAgain_62 a1 (by omega) NN x2_4 t_size t_factors t_pairFactors t_barred t_forbidden (by omega) (by omega) (by omega)
    · have thc1 := nle hc1
      refine sat_stI (okI_of (by omega)) fun t_pairFactors_7 e3 => ?_
      refine sat_stZ (okI_of (by omega)) fun t_barred_8 e4 => ?_
      refine sat_bnd fun x2_9 e5 => ?_
      try (have k6 : (x2 + (1 : Int32)).toInt = x2.toInt + (1 : Int32).toInt := ti_add (by omega) (by omega))
      have te5 := congrArg Int32.toInt e5
      exact ih x2_9 t_size t_factors t_pairFactors_7 t_barred_8 t_forbidden (by omega) (by omega) (by omega)
theorem l_X3_startAgain_7 (a1 : Int32) (h_a1 : 1 ≤ a1.toInt ∧ a1.toInt ≤ 4) : ∀ (n : Nat) (x2 : Int32) (t_size : Int32) (t_factors : Nat → Int32) (t_pairFactors : Nat → Int32) (t_barred : Nat → Int32) (t_forbidden : Nat → Int32), (0 ≤ x2.toInt ∧ x2.toInt ≤ 4) → (1 ≤ t_size.toInt ∧ t_size.toInt ≤ 4) → 4 - x2.toInt < (n : Int) → Sat (L_X3_startAgain_7 a1 n x2 t_size t_factors t_pairFactors t_barred t_forbidden) (fun r => (1 ≤ (r.1).toInt ∧ (r.1).toInt ≤ 4) ∧ True) := by
  intro n
  induction n with
  | zero => intro x2 t_size t_factors t_pairFactors t_barred t_forbidden h_x2 h_t_size hM; exfalso; omega
  | succ n ih =>
    intro x2 t_size t_factors t_pairFactors t_barred t_forbidden h_x2 h_t_size hM
    rw [L_X3_startAgain_7]
    have l4 : (4 : Int32).toInt = 4 := rfl
    have l0 : (0 : Int32).toInt = 0 := rfl
    have l1 : (1 : Int32).toInt = 1 := rfl
    refine sat_ite (fun hc1 => ?_) (fun hc1 => ?_)
    · have thc1 := ple hc1
      refine sat_bnd fun x2_3 e2 => ?_
      have te2 := congrArg Int32.toInt e2
      have hNN := NN_i
      exact l_X3_startAgain_31 a1 (by omega) NN x2_3 t_size t_factors t_pairFactors t_barred t_forbidden (by omega) (by omega) (by omega)
    · have thc1 := nle hc1
      refine sat_stI (okI_of (by omega)) fun t_factors_10 e3 => ?_
      refine sat_bnd fun x2_11 e4 => ?_
      try (have k5 : (x2 + (1 : Int32)).toInt = x2.toInt + (1 : Int32).toInt := ti_add (by omega) (by omega))
      have te4 := congrArg Int32.toInt e4
      exact ih x2_11 t_size t_factors_10 t_pairFactors t_barred t_forbidden (by omega) (by omega) (by omega)
theorem s_X3_startAgain (a1 : Int32) (t_size : Int32) (t_factors : Nat → Int32) (t_pairFactors : Nat → Int32) (t_barred : Nat → Int32) (t_forbidden : Nat → Int32) (h_a1 : 1 ≤ a1.toInt ∧ a1.toInt ≤ 4) (h_t_size : 1 ≤ t_size.toInt ∧ t_size.toInt ≤ 4) : Sat (f_X3_startAgain a1 t_size t_factors t_pairFactors t_barred t_forbidden) (fun r => (1 ≤ (r.1).toInt ∧ (r.1).toInt ≤ 4) ∧ True) := by
  unfold f_X3_startAgain
  have l0 : (0 : Int32).toInt = 0 := rfl
  refine sat_bnd fun t_size_1 e1 => ?_
  have te1 := congrArg Int32.toInt e1
  refine sat_bnd fun x2_2 e2 => ?_
  have te2 := congrArg Int32.toInt e2
  have hNN := NN_i
  exact l_X3_startAgain_7 a1 (by omega) NN x2_2 t_size_1 t_factors t_pairFactors t_barred t_forbidden (by omega) (by omega) (by omega)
theorem s_X3_setPair (a1 : Int32) (a2 : Int32) (a3 : Int32) (a4 : Int32) (t_pairFactors : Nat → Int32) (t_barred : Nat → Int32) (h_a1 : 0 ≤ a1.toInt ∧ a1.toInt ≤ 3) (h_a2 : 0 ≤ a2.toInt ∧ a2.toInt ≤ 3) : Sat (f_X3_setPair a1 a2 a3 a4 t_pairFactors t_barred) (fun r => True) := by
  unfold f_X3_setPair
  have l4 : (4 : Int32).toInt = 4 := rfl
  try (have k2 : (a1 * (4 : Int32)).toInt = a1.toInt * 4 := ti_mulc rfl (by omega))
  try (have k3 : ((a1 * (4 : Int32)) + a2).toInt = (a1 * (4 : Int32)).toInt + a2.toInt := ti_add (by omega) (by omega))
  refine sat_stI (okI_of (by omega)) fun t_pairFactors_1 e1 => ?_
  try (have k5 : (a2 * (4 : Int32)).toInt = a2.toInt * 4 := ti_mulc rfl (by omega))
  try (have k6 : ((a2 * (4 : Int32)) + a1).toInt = (a2 * (4 : Int32)).toInt + a1.toInt := ti_add (by omega) (by omega))
  refine sat_stI (okI_of (by omega)) fun t_pairFactors_2 e4 => ?_
  refine sat_stZ (okI_of (by omega)) fun t_barred_3 e7 => ?_
  refine sat_stZ (okI_of (by omega)) fun t_barred_4 e8 => ?_
  exact sat_some trivial
theorem s_X3_openFor (a1 : Int32) (t_size : Int32) (t_forbidden : Nat → Int32) (h_a1 : 0 ≤ a1.toInt ∧ a1.toInt ≤ 13) (h_t_size : 1 ≤ t_size.toInt ∧ t_size.toInt ≤ 4) : Sat (f_X3_openFor a1 t_size t_forbidden) (fun r => True) := by
  unfold f_X3_openFor
  refine sat_ldA (okI_of (by omega)) fun v1 e1 => ?_
  exact sat_some trivial
theorem s_X4_addKnot (a1 : Int32) (t_size : Int32) (t_loads : Nat → Int32) (h_t_size : 0 ≤ t_size.toInt ∧ t_size.toInt ≤ 13) : Sat (f_X4_addKnot a1 t_size t_loads) (fun r => (0 ≤ (r.2.1).toInt ∧ (r.2.1).toInt ≤ 14) ∧ (t_size.toInt ≤ r.2.1.toInt) ∧ True) := by
  unfold f_X4_addKnot
  have l1 : (1 : Int32).toInt = 1 := rfl
  refine sat_stI (okI_of (by omega)) fun t_loads_1 e1 => ?_
  refine sat_bnd fun t_size_2 e2 => ?_
  try (have k3 : (t_size + (1 : Int32)).toInt = t_size.toInt + (1 : Int32).toInt := ti_add (by omega) (by omega))
  have te2 := congrArg Int32.toInt e2
  exact sat_some ⟨(by (try dsimp only); omega), (by (try dsimp only); omega), trivial⟩
theorem j_X4_join_35  : ∀ (a1 : Int32) (a2 : Int32) (a3 : Int32) (x4 : Int32) (t_edges : Int32) (t_near : Nat → Int32) (t_ties : Nat → Int32), (0 ≤ a1.toInt ∧ a1.toInt ≤ 13) → (0 ≤ a2.toInt ∧ a2.toInt ≤ 13) → (0 ≤ x4.toInt ∧ x4.toInt ≤ 1) → Sat (J_X4_join_35 a1 a2 a3 x4 t_edges t_near t_ties) (fun r => (0 ≤ (r.1).toInt ∧ (r.1).toInt ≤ 1) ∧ True) := by
  intro a1 a2 a3 x4 t_edges t_near t_ties h_a1 h_a2 h_x4
  unfold J_X4_join_35
  have l14 : (14 : Int32).toInt = 14 := rfl
  refine sat_ldA (okI_of (by omega)) fun v4 e1 => ?_
  refine sat_stI (okI_of (by omega)) fun t_near_5 e2 => ?_
  refine sat_ldA (okI_of (by omega)) fun v6 e3 => ?_
  refine sat_stI (okI_of (by omega)) fun t_near_7 e4 => ?_
  try (have k6 : (a1 * (14 : Int32)).toInt = a1.toInt * 14 := ti_mulc rfl (by omega))
  try (have k7 : ((a1 * (14 : Int32)) + a2).toInt = (a1 * (14 : Int32)).toInt + a2.toInt := ti_add (by omega) (by omega))
  refine sat_stI (okI_of (by omega)) fun t_ties_8 e5 => ?_
  try (have k9 : (a2 * (14 : Int32)).toInt = a2.toInt * 14 := ti_mulc rfl (by omega))
  try (have k10 : ((a2 * (14 : Int32)) + a1).toInt = (a2 * (14 : Int32)).toInt + a1.toInt := ti_add (by omega) (by omega))
  refine sat_stI (okI_of (by omega)) fun t_ties_9 e8 => ?_
  refine sat_chk (b01 (by omega)) ?_
  exact sat_some ⟨(by (try dsimp only); omega), trivial⟩
theorem j_X4_join_18  : ∀ (a1 : Int32) (a2 : Int32) (a3 : Int32) (s0 : Int32) (t_edges : Int32) (t_near : Nat → Int32) (t_ties : Nat → Int32), (0 ≤ a1.toInt ∧ a1.toInt ≤ 13) → (0 ≤ a2.toInt ∧ a2.toInt ≤ 13) → (0 ≤ s0.toInt ∧ s0.toInt ≤ 1) → Sat (J_X4_join_18 a1 a2 a3 s0 t_edges t_near t_ties) (fun r => (0 ≤ (r.1).toInt ∧ (r.1).toInt ≤ 1) ∧ True) := by
  intro a1 a2 a3 s0 t_edges t_near t_ties h_a1 h_a2 h_s0
  unfold J_X4_join_18
  have l0 : (0 : Int32).toInt = 0 := rfl
  have l1 : (1 : Int32).toInt = 1 := rfl
  refine sat_bnd fun x4_3 e1 => ?_
  have te1 := congrArg Int32.toInt e1
  refine sat_ite (fun hc2 => ?_) (fun hc2 => ?_)
  · have thc2 := congrArg Int32.toInt hc2
    exact j_X4_join_35 a1 a2 a3 x4_3 t_edges t_near t_ties (by omega) (by omega) (by omega)
  · have thc2 := neq hc2
    refine sat_bnd fun t_edges_10 e3 => ?_
    try (have k4 : (t_edges + (1 : Int32)).toInt = t_edges.toInt + (1 : Int32).toInt := ti_add (by omega) (by omega))
    have te3 := congrArg Int32.toInt e3
    exact j_X4_join_35 a1 a2 a3 x4_3 t_edges_10 t_near t_ties (by omega) (by omega) (by omega)
theorem s_X4_join (a1 : Int32) (a2 : Int32) (a3 : Int32) (t_edges : Int32) (t_near : Nat → Int32) (t_ties : Nat → Int32) (h_a1 : 0 ≤ a1.toInt ∧ a1.toInt ≤ 13) (h_a2 : 0 ≤ a2.toInt ∧ a2.toInt ≤ 13) : Sat (f_X4_join a1 a2 a3 t_edges t_near t_ties) (fun r => (0 ≤ (r.1).toInt ∧ (r.1).toInt ≤ 1) ∧ True) := by
  unfold f_X4_join
  have l0 : (0 : Int32).toInt = 0 := rfl
  have l1 : (1 : Int32).toInt = 1 := rfl
  refine sat_ldA (okI_of (by omega)) fun v1 e1 => ?_
  refine sat_cal (s_X8_hasBit v1 a2) fun u2 hu2 => ?_
  obtain ⟨hu2_0, -⟩ := hu2
  refine sat_ite (fun hc2 => ?_) (fun hc2 => ?_)
  · have thc2 := congrArg Int32.toInt hc2
    exact j_X4_join_18 a1 a2 a3 (1 : Int32) t_edges t_near t_ties (by omega) (by omega) (by omega)
  · have thc2 := neq hc2
    exact j_X4_join_18 a1 a2 a3 (0 : Int32) t_edges t_near t_ties (by omega) (by omega) (by omega)
theorem s_X4_part (a1 : Int32) (a2 : Int32) (t_edges : Int32) (t_near : Nat → Int32) (t_ties : Nat → Int32) (h_a1 : 0 ≤ a1.toInt ∧ a1.toInt ≤ 13) (h_a2 : 0 ≤ a2.toInt ∧ a2.toInt ≤ 13) : Sat (f_X4_part a1 a2 t_edges t_near t_ties) (fun r => True) := by
  unfold f_X4_part
  have l1 : (1 : Int32).toInt = 1 := rfl
  have l14 : (14 : Int32).toInt = 14 := rfl
  refine sat_ldA (okI_of (by omega)) fun v1 e1 => ?_
  refine sat_stI (okI_of (by omega)) fun t_near_2 e2 => ?_
  refine sat_ldA (okI_of (by omega)) fun v3 e3 => ?_
  refine sat_stI (okI_of (by omega)) fun t_near_4 e4 => ?_
  refine sat_bnd fun t_edges_5 e5 => ?_
  try (have k6 : (t_edges - (1 : Int32)).toInt = t_edges.toInt - (1 : Int32).toInt := ti_sub (by omega) (by omega))
  have te5 := congrArg Int32.toInt e5
  try (have k8 : (a1 * (14 : Int32)).toInt = a1.toInt * 14 := ti_mulc rfl (by omega))
  try (have k9 : ((a1 * (14 : Int32)) + a2).toInt = (a1 * (14 : Int32)).toInt + a2.toInt := ti_add (by omega) (by omega))
  refine sat_ldA (okI_of (by omega)) fun v6 e7 => ?_
  exact sat_some trivial
theorem l_X4_reached_20 (a1 : Int32) (a2 : Int32) (t_size : Int32) (t_near : Nat → Int32) (k_5 : Int32 → Int32 → Option (Int32)) (g_5 : Int) (h_t_size : 0 ≤ t_size.toInt ∧ t_size.toInt ≤ 14) (hk_5 : ∀ (x3 : Int32) (x4 : Int32), (0 ≤ x4.toInt ∧ x4.toInt ≤ 14) → (14 - x4.toInt < g_5) → Sat (k_5 x3 x4) (fun r => True)) : ∀ (n : Nat) (x3 : Int32) (x4 : Int32) (x5 : Int32) (x6 : Int32), (0 ≤ x4.toInt ∧ x4.toInt ≤ 13) → (0 ≤ x6.toInt ∧ x6.toInt ≤ 14) → (14 - x4.toInt ≤ g_5) → 14 - x6.toInt < (n : Int) → Sat (L_X4_reached_20 a1 a2 t_size t_near k_5 n x3 x4 x5 x6) (fun r => True) := by
  intro n
  induction n with
  | zero => intro x3 x4 x5 x6 h_x4 h_x6 hg_5 hM; exfalso; omega
  | succ n ih =>
    intro x3 x4 x5 x6 h_x4 h_x6 hg_5 hM
    rw [L_X4_reached_20]
    have l1 : (1 : Int32).toInt = 1 := rfl
    have l0 : (0 : Int32).toInt = 0 := rfl
    refine sat_ite (fun hc1 => ?_) (fun hc1 => ?_)
    · have thc1 := ple hc1
      refine sat_ite (fun hc2 => ?_) (fun hc2 => ?_)
      · have thc2 := congrArg Int32.toInt hc2
        exact sat_some trivial
      · have thc2 := neq hc2
        refine sat_bnd fun x3_5 e3 => ?_
        have te3 := congrArg Int32.toInt e3
        refine sat_bnd fun x4_6 e4 => ?_
        try (have k5 : (x4 + (1 : Int32)).toInt = x4.toInt + (1 : Int32).toInt := ti_add (by omega) (by omega))
        have te4 := congrArg Int32.toInt e4
        exact hk_5 x3_5 x4_6 (by omega) (by omega)
    · have thc1 := nle hc1
      refine sat_cal (s_X8_hasBit x3 x6) fun u7 hu7 => ?_
      obtain ⟨hu7_0, -⟩ := hu7
      refine sat_ite (fun hc6 => ?_) (fun hc6 => ?_)
      · have thc6 := congrArg Int32.toInt hc6
        refine sat_bnd fun x6_8 e7 => ?_
        try (have k8 : (x6 + (1 : Int32)).toInt = x6.toInt + (1 : Int32).toInt := ti_add (by omega) (by omega))
        have te7 := congrArg Int32.toInt e7
        exact ih x3 x4 x5 x6_8 (by omega) (by omega) (by omega) (by omega)
      · have thc6 := neq hc6
        refine sat_ldA (okI_of (by omega)) fun v9 e9 => ?_
        refine sat_bnd fun x5_10 e10 => ?_
        refine sat_bnd fun x6_11 e11 => ?_
        try (have k12 : (x6 + (1 : Int32)).toInt = x6.toInt + (1 : Int32).toInt := ti_add (by omega) (by omega))
        have te11 := congrArg Int32.toInt e11
        exact ih x3 x4 x5_10 x6_11 (by omega) (by omega) (by omega) (by omega)
theorem l_X4_reached_5 (a1 : Int32) (a2 : Int32) (t_size : Int32) (t_near : Nat → Int32) (h_t_size : 0 ≤ t_size.toInt ∧ t_size.toInt ≤ 14) : ∀ (n : Nat) (x3 : Int32) (x4 : Int32), (0 ≤ x4.toInt ∧ x4.toInt ≤ 14) → 14 - x4.toInt < (n : Int) → Sat (L_X4_reached_5 a1 a2 t_size t_near n x3 x4) (fun r => True) := by
  intro n
  induction n with
  | zero => intro x3 x4 h_x4 hM; exfalso; omega
  | succ n ih =>
    intro x3 x4 h_x4 hM
    rw [L_X4_reached_5]
    have l0 : (0 : Int32).toInt = 0 := rfl
    refine sat_ite (fun hc1 => ?_) (fun hc1 => ?_)
    · have thc1 := ple hc1
      exact sat_some trivial
    · have thc1 := nle hc1
      refine sat_bnd fun x5_3 e2 => ?_
      have te2 := congrArg Int32.toInt e2
      refine sat_bnd fun x6_4 e3 => ?_
      have te3 := congrArg Int32.toInt e3
      have hNN := NN_i
      exact l_X4_reached_20 a1 a2 t_size t_near (fun y0 y1 => L_X4_reached_5 a1 a2 t_size t_near n y0 y1) (n : Int) (by omega) (fun y0 y1 z0 zm => ih y0 y1 z0 zm) NN x3 x4 x5_3 x6_4 (by omega) (by omega) (by omega) (by omega)
theorem s_X4_reached (a1 : Int32) (a2 : Int32) (t_size : Int32) (t_near : Nat → Int32) (h_t_size : 0 ≤ t_size.toInt ∧ t_size.toInt ≤ 14) : Sat (f_X4_reached a1 a2 t_size t_near) (fun r => True) := by
  unfold f_X4_reached
  have l0 : (0 : Int32).toInt = 0 := rfl
  refine sat_bnd fun x3_1 e1 => ?_
  have te1 := congrArg Int32.toInt e1
  refine sat_bnd fun x4_2 e2 => ?_
  have te2 := congrArg Int32.toInt e2
  have hNN := NN_i
  exact l_X4_reached_5 a1 a2 t_size t_near (by omega) NN x3_1 x4_2 (by omega) (by omega)
theorem l_X4_largestPart_7 (a1 : Int32) (t_size : Int32) (t_near : Nat → Int32) (h_t_size : 0 ≤ t_size.toInt ∧ t_size.toInt ≤ 14) : ∀ (n : Nat) (x2 : Int32) (x3 : Int32) (x4 : Int32), (0 ≤ x4.toInt ∧ x4.toInt ≤ 14) → 14 - x4.toInt < (n : Int) → Sat (L_X4_largestPart_7 a1 t_size t_near n x2 x3 x4) (fun r => True) := by
  intro n
  induction n with
  | zero => intro x2 x3 x4 h_x4 hM; exfalso; omega
  | succ n ih =>
    intro x2 x3 x4 h_x4 hM
    rw [L_X4_largestPart_7]
    have l0 : (0 : Int32).toInt = 0 := rfl
    have l1 : (1 : Int32).toInt = 1 := rfl
    refine sat_ite (fun hc1 => ?_) (fun hc1 => ?_)
    · have thc1 := ple hc1
      exact sat_some trivial
    · have thc1 := nle hc1
      refine sat_cal (s_X8_hasBit x2 x4) fun u4 hu4 => ?_
      obtain ⟨hu4_0, -⟩ := hu4
      refine sat_ite (fun hc2 => ?_) (fun hc2 => ?_)
      · have thc2 := congrArg Int32.toInt hc2
        refine sat_bnd fun x4_11 e3 => ?_
        try (have k4 : (x4 + (1 : Int32)).toInt = x4.toInt + (1 : Int32).toInt := ti_add (by omega) (by omega))
        have te3 := congrArg Int32.toInt e3
        exact ih x2 x3 x4_11 (by omega) (by omega)
      · have thc2 := neq hc2
        refine sat_cal (s_X4_reached ((1 : Int32) <<< (x4 &&& 31)) a1 t_size t_near (by omega)) fun u5 hu5 => ?_
        refine sat_bnd fun x5_6 e5 => ?_
        have te5 := congrArg Int32.toInt e5
        refine sat_cal (s_J6_bitCount_0f7a4 x5_6) fun u7 hu7 => ?_
        obtain ⟨hu7_0, -⟩ := hu7
        refine sat_bnd fun x3_8 e6 => ?_
        have te6 := mm e6
        refine sat_bnd fun x2_9 e7 => ?_
        refine sat_bnd fun x4_10 e8 => ?_
        try (have k9 : (x4 + (1 : Int32)).toInt = x4.toInt + (1 : Int32).toInt := ti_add (by omega) (by omega))
        have te8 := congrArg Int32.toInt e8
        exact ih x2_9 x3_8 x4_10 (by omega) (by omega)
theorem s_X4_largestPart (a1 : Int32) (t_size : Int32) (t_near : Nat → Int32) (h_t_size : 0 ≤ t_size.toInt ∧ t_size.toInt ≤ 14) : Sat (f_X4_largestPart a1 t_size t_near) (fun r => True) := by
  unfold f_X4_largestPart
  have l0 : (0 : Int32).toInt = 0 := rfl
  refine sat_bnd fun x2_1 e1 => ?_
  have te1 := congrArg Int32.toInt e1
  refine sat_bnd fun x3_2 e2 => ?_
  have te2 := congrArg Int32.toInt e2
  refine sat_bnd fun x4_3 e3 => ?_
  have te3 := congrArg Int32.toInt e3
  have hNN := NN_i
  exact l_X4_largestPart_7 a1 t_size t_near (by omega) NN x2_1 x3_2 x4_3 (by omega) (by omega)
theorem l_X1_takeAway_9 (a1 : Int32) (h_a1 : 0 ≤ a1.toInt ∧ a1.toInt ≤ 13) : ∀ (n : Nat) (x2 : Int32) (x3 : Int32) (t_left : Int32) (t_near : Nat → Int32), (0 ≤ x3.toInt ∧ x3.toInt ≤ 14) → (0 ≤ t_left.toInt ∧ t_left.toInt ≤ 16383) → 14 - x3.toInt < (n : Int) → Sat (L_X1_takeAway_9 a1 n x2 x3 t_left t_near) (fun r => (0 ≤ (r.1).toInt ∧ (r.1).toInt ≤ 16383) ∧ True) := by
  intro n
  induction n with
  | zero => intro x2 x3 t_left t_near h_x3 h_t_left hM; exfalso; omega
  | succ n ih =>
    intro x2 x3 t_left t_near h_x3 h_t_left hM
    rw [L_X1_takeAway_9]
    have l14 : (14 : Int32).toInt = 14 := rfl
    have l0 : (0 : Int32).toInt = 0 := rfl
    have l1 : (1 : Int32).toInt = 1 := rfl
    refine sat_ite (fun hc1 => ?_) (fun hc1 => ?_)
    · have thc1 := ple hc1
      refine sat_stI (okI_of (by omega)) fun t_near_4 e2 => ?_
      refine sat_bnd fun t_left_5 e3 => ?_
      have tt_left_5 := and_rg e3 h_t_left
      exact sat_some ⟨(by (try dsimp only); omega), trivial⟩
    · have thc1 := nle hc1
      refine sat_cal (s_X8_hasBit x2 x3) fun u6 hu6 => ?_
      obtain ⟨hu6_0, -⟩ := hu6
      refine sat_ite (fun hc4 => ?_) (fun hc4 => ?_)
      · have thc4 := congrArg Int32.toInt hc4
        refine sat_bnd fun x3_7 e5 => ?_
        try (have k6 : (x3 + (1 : Int32)).toInt = x3.toInt + (1 : Int32).toInt := ti_add (by omega) (by omega))
        have te5 := congrArg Int32.toInt e5
        exact ih x2 x3_7 t_left t_near (by omega) (by omega) (by omega)
      · have thc4 := neq hc4
        refine sat_ldA (okI_of (by omega)) fun v8 e7 => ?_
        refine sat_stI (okI_of (by omega)) fun t_near_9 e8 => ?_
        refine sat_bnd fun x3_10 e9 => ?_
        try (have k10 : (x3 + (1 : Int32)).toInt = x3.toInt + (1 : Int32).toInt := ti_add (by omega) (by omega))
        have te9 := congrArg Int32.toInt e9
        exact ih x2 x3_10 t_left t_near_9 (by omega) (by omega) (by omega)
theorem s_X1_takeAway (a1 : Int32) (t_left : Int32) (t_near : Nat → Int32) (h_a1 : 0 ≤ a1.toInt ∧ a1.toInt ≤ 13) (h_t_left : 0 ≤ t_left.toInt ∧ t_left.toInt ≤ 16383) : Sat (f_X1_takeAway a1 t_left t_near) (fun r => (0 ≤ (r.1).toInt ∧ (r.1).toInt ≤ 16383) ∧ True) := by
  unfold f_X1_takeAway
  have l0 : (0 : Int32).toInt = 0 := rfl
  refine sat_ldA (okI_of (by omega)) fun v1 e1 => ?_
  refine sat_bnd fun x2_2 e2 => ?_
  have te2 := congrArg Int32.toInt e2
  refine sat_bnd fun x3_3 e3 => ?_
  have te3 := congrArg Int32.toInt e3
  have hNN := NN_i
  exact l_X1_takeAway_9 a1 (by omega) NN x2_2 x3_3 t_left t_near (by omega) (by omega) (by omega)
theorem l_X1_letGo_14 (a1 : Int32) (h_a1 : 0 ≤ a1.toInt ∧ a1.toInt ≤ 13) : ∀ (n : Nat) (x2 : Int32) (x3 : Int32) (t_left : Int32) (t_newEnds : Int32) (t_near : Nat → Int32), (0 ≤ x3.toInt ∧ x3.toInt ≤ 14) → (0 ≤ t_left.toInt ∧ t_left.toInt ≤ 16383) → 14 - x3.toInt < (n : Int) → Sat (L_X1_letGo_14 a1 n x2 x3 t_left t_newEnds t_near) (fun r => (0 ≤ (r.1).toInt ∧ (r.1).toInt ≤ 16383) ∧ True) := by
  intro n
  induction n with
  | zero => intro x2 x3 t_left t_newEnds t_near h_x3 h_t_left hM; exfalso; omega
  | succ n ih =>
    intro x2 x3 t_left t_newEnds t_near h_x3 h_t_left hM
    rw [L_X1_letGo_14]
    have l14 : (14 : Int32).toInt = 14 := rfl
    have l0 : (0 : Int32).toInt = 0 := rfl
    have l1 : (1 : Int32).toInt = 1 := rfl
    refine sat_ite (fun hc1 => ?_) (fun hc1 => ?_)
    · have thc1 := ple hc1
      exact sat_some ⟨(by (try dsimp only); omega), trivial⟩
    · have thc1 := nle hc1
      refine sat_cal (s_X8_hasBit x2 x3) fun u5 hu5 => ?_
      obtain ⟨hu5_0, -⟩ := hu5
      refine sat_ite (fun hc2 => ?_) (fun hc2 => ?_)
      · have thc2 := congrArg Int32.toInt hc2
        refine sat_bnd fun x3_13 e3 => ?_
        try (have k4 : (x3 + (1 : Int32)).toInt = x3.toInt + (1 : Int32).toInt := ti_add (by omega) (by omega))
        have te3 := congrArg Int32.toInt e3
        exact ih x2 x3_13 t_left t_newEnds t_near (by omega) (by omega) (by omega)
      · have thc2 := neq hc2
        refine sat_ldA (okI_of (by omega)) fun v6 e5 => ?_
        refine sat_bnd fun x4_7 e6 => ?_
        refine sat_cal (s_J6_bitCount_0f7a4 x4_7) fun u8 hu8 => ?_
        obtain ⟨hu8_0, -⟩ := hu8
        refine sat_bnd fun t_newEnds_9 e7 => ?_
        try (have k8 : (t_newEnds + u8).toInt = t_newEnds.toInt + u8.toInt := ti_add (by omega) (by omega))
        have te7 := congrArg Int32.toInt e7
        refine sat_ldA (okI_of (by omega)) fun v10 e9 => ?_
        have tdv10 := congrArg Int32.toInt (e9.trans e5.symm)
        refine sat_stI (okI_of (by omega)) fun t_near_11 e10 => ?_
        refine sat_bnd fun x3_12 e11 => ?_
        try (have k12 : (x3 + (1 : Int32)).toInt = x3.toInt + (1 : Int32).toInt := ti_add (by omega) (by omega))
        have te11 := congrArg Int32.toInt e11
        exact ih x2 x3_12 t_left t_newEnds_9 t_near_11 (by omega) (by omega) (by omega)
theorem s_X1_letGo (a1 : Int32) (t_left : Int32) (t_newEnds : Int32) (t_near : Nat → Int32) (h_a1 : 0 ≤ a1.toInt ∧ a1.toInt ≤ 13) (h_t_left : 0 ≤ t_left.toInt ∧ t_left.toInt ≤ 16383) : Sat (f_X1_letGo a1 t_left t_newEnds t_near) (fun r => (0 ≤ (r.1).toInt ∧ (r.1).toInt ≤ 16383) ∧ True) := by
  unfold f_X1_letGo
  have l0 : (0 : Int32).toInt = 0 := rfl
  refine sat_ldA (okI_of (by omega)) fun v1 e1 => ?_
  refine sat_bnd fun x2_2 e2 => ?_
  have te2 := congrArg Int32.toInt e2
  refine sat_cal (s_X1_takeAway a1 t_left t_near (by omega) (by omega)) fun u3 hu3 => ?_
  obtain ⟨hu3_0, -⟩ := hu3
  refine sat_bnd fun x3_4 e3 => ?_
  have te3 := congrArg Int32.toInt e3
  have hNN := NN_i
  exact l_X1_letGo_14 a1 (by omega) NN x2_2 x3_4 u3.1 t_newEnds u3.2 (by omega) (by omega) (by omega)
theorem s_X1_start (t_left : Int32) (t_newEnds : Int32) (t_near : Nat → Int32) (u_size : Int32) (u_near : Nat → Int32) (h_t_left : 0 ≤ t_left.toInt ∧ t_left.toInt ≤ 16383) (h_u_size : 0 ≤ u_size.toInt ∧ u_size.toInt ≤ 14) : Sat (f_X1_start t_left t_newEnds t_near u_size u_near) (fun r => (0 ≤ (r.1).toInt ∧ (r.1).toInt ≤ 16383) ∧ True) := by
  unfold f_X1_start
  have l0 : (0 : Int32).toInt = 0 := rfl
  refine sat_bnd fun t_near_1 e1 => ?_
  refine sat_cal (s_X4_everyKnot u_size (by omega)) fun u2 hu2 => ?_
  obtain ⟨hu2_0, -⟩ := hu2
  refine sat_bnd fun t_left_3 e2 => ?_
  have te2 := congrArg Int32.toInt e2
  refine sat_bnd fun t_newEnds_4 e3 => ?_
  have te3 := congrArg Int32.toInt e3
  exact sat_some ⟨(by (try dsimp only); omega), trivial⟩
theorem s_X1_startAs (t_left : Int32) (t_newEnds : Int32) (t_near : Nat → Int32) (u_left : Int32) (u_newEnds : Int32) (u_near : Nat → Int32) (h_t_left : 0 ≤ t_left.toInt ∧ t_left.toInt ≤ 16383) (h_u_left : 0 ≤ u_left.toInt ∧ u_left.toInt ≤ 16383) : Sat (f_X1_startAs t_left t_newEnds t_near u_left u_newEnds u_near) (fun r => (0 ≤ (r.1).toInt ∧ (r.1).toInt ≤ 16383) ∧ True) := by
  unfold f_X1_startAs
  refine sat_bnd fun t_near_1 e1 => ?_
  refine sat_bnd fun t_left_2 e2 => ?_
  have te2 := congrArg Int32.toInt e2
  refine sat_bnd fun t_newEnds_3 e3 => ?_
  have te3 := congrArg Int32.toInt e3
  exact sat_some ⟨(by (try dsimp only); omega), trivial⟩
theorem l_X1_loneliest_7 (t_left : Int32) (t_near : Nat → Int32) (h_t_left : 0 ≤ t_left.toInt ∧ t_left.toInt ≤ 16383) : ∀ (n : Nat) (x1 : Int32) (x2 : Int32) (x3 : Int32), (0 ≤ x1.toInt ∧ x1.toInt ≤ 13) → (0 ≤ x3.toInt ∧ x3.toInt ≤ 14) → 14 - x3.toInt < (n : Int) → Sat (L_X1_loneliest_7 t_left t_near n x1 x2 x3) (fun r => (0 ≤ r.toInt ∧ r.toInt ≤ 13) ∧ True) := by
  intro n
  induction n with
  | zero => intro x1 x2 x3 h_x1 h_x3 hM; exfalso; omega
  | succ n ih =>
    intro x1 x2 x3 h_x1 h_x3 hM
    rw [L_X1_loneliest_7]
    have l14 : (14 : Int32).toInt = 14 := rfl
    have l0 : (0 : Int32).toInt = 0 := rfl
    have l1 : (1 : Int32).toInt = 1 := rfl
    refine sat_ite (fun hc1 => ?_) (fun hc1 => ?_)
    · have thc1 := ple hc1
      exact sat_some ⟨(by omega), trivial⟩
    · have thc1 := nle hc1
      refine sat_cal (s_X8_hasBit t_left x3) fun u4 hu4 => ?_
      obtain ⟨hu4_0, -⟩ := hu4
      refine sat_ite (fun hc2 => ?_) (fun hc2 => ?_)
      · have thc2 := congrArg Int32.toInt hc2
        refine sat_bnd fun x3_12 e3 => ?_
        try (have k4 : (x3 + (1 : Int32)).toInt = x3.toInt + (1 : Int32).toInt := ti_add (by omega) (by omega))
        have te3 := congrArg Int32.toInt e3
        exact ih x1 x2 x3_12 (by omega) (by omega) (by omega)
      · have thc2 := neq hc2
        refine sat_ldA (okI_of (by omega)) fun v5 e5 => ?_
        refine sat_cal (s_J6_bitCount_0f7a4 v5) fun u6 hu6 => ?_
        obtain ⟨hu6_0, -⟩ := hu6
        refine sat_bnd fun x4_7 e6 => ?_
        have te6 := congrArg Int32.toInt e6
        refine sat_ite (fun hc7 => ?_) (fun hc7 => ?_)
        · have thc7 := ple hc7
          refine sat_bnd fun x3_8 e8 => ?_
          try (have k9 : (x3 + (1 : Int32)).toInt = x3.toInt + (1 : Int32).toInt := ti_add (by omega) (by omega))
          have te8 := congrArg Int32.toInt e8
          exact ih x1 x2 x3_8 (by omega) (by omega) (by omega)
        · have thc7 := nle hc7
          refine sat_bnd fun x1_9 e10 => ?_
          have te10 := congrArg Int32.toInt e10
          refine sat_bnd fun x2_10 e11 => ?_
          have te11 := congrArg Int32.toInt e11
          refine sat_bnd fun x3_11 e12 => ?_
          try (have k13 : (x3 + (1 : Int32)).toInt = x3.toInt + (1 : Int32).toInt := ti_add (by omega) (by omega))
          have te12 := congrArg Int32.toInt e12
          exact ih x1_9 x2_10 x3_11 (by omega) (by omega) (by omega)
theorem s_X1_loneliest (t_left : Int32) (t_near : Nat → Int32) (h_t_left : 0 ≤ t_left.toInt ∧ t_left.toInt ≤ 16383) : Sat (f_X1_loneliest t_left t_near) (fun r => (0 ≤ r.toInt ∧ r.toInt ≤ 13) ∧ True) := by
  unfold f_X1_loneliest
  have l0 : (0 : Int32).toInt = 0 := rfl
  have l14 : (14 : Int32).toInt = 14 := rfl
  refine sat_bnd fun x1_1 e1 => ?_
  have te1 := congrArg Int32.toInt e1
  refine sat_bnd fun x2_2 e2 => ?_
  have te2 := congrArg Int32.toInt e2
  refine sat_bnd fun x3_3 e3 => ?_
  have te3 := congrArg Int32.toInt e3
  have hNN := NN_i
  exact l_X1_loneliest_7 t_left t_near (by omega) NN x1_1 x2_2 x3_3 (by omega) (by omega) (by omega)
theorem l_X1_isNearlyJoined_7 (a1 : Int32) (t_near : Nat → Int32) : ∀ (n : Nat) (x2 : Int32) (x3 : Int32) (x4 : Int32), (0 ≤ x4.toInt ∧ x4.toInt ≤ 14) → 14 - x4.toInt < (n : Int) → Sat (L_X1_isNearlyJoined_7 a1 t_near n x2 x3 x4) (fun r => (0 ≤ r.toInt ∧ r.toInt ≤ 1) ∧ True) := by
  intro n
  induction n with
  | zero => intro x2 x3 x4 h_x4 hM; exfalso; omega
  | succ n ih =>
    intro x2 x3 x4 h_x4 hM
    rw [L_X1_isNearlyJoined_7]
    have l14 : (14 : Int32).toInt = 14 := rfl
    have l2 : (2 : Int32).toInt = 2 := rfl
    have l1 : (1 : Int32).toInt = 1 := rfl
    have l0 : (0 : Int32).toInt = 0 := rfl
    refine sat_ite (fun hc1 => ?_) (fun hc1 => ?_)
    · have thc1 := ple hc1
      try (have k3 : ((2 : Int32) * x3).toInt = 2 * x3.toInt := ti_cmul rfl (by omega))
      refine sat_ite (fun hc2 => ?_) (fun hc2 => ?_)
      · have thc2 := congrArg Int32.toInt hc2
        exact sat_some ⟨(by omega), trivial⟩
      · have thc2 := neq hc2
        exact sat_some ⟨(by omega), trivial⟩
    · have thc1 := nle hc1
      refine sat_cal (s_X8_hasBit a1 x4) fun u4 hu4 => ?_
      obtain ⟨hu4_0, -⟩ := hu4
      refine sat_ite (fun hc4 => ?_) (fun hc4 => ?_)
      · have thc4 := congrArg Int32.toInt hc4
        refine sat_bnd fun x4_11 e5 => ?_
        try (have k6 : (x4 + (1 : Int32)).toInt = x4.toInt + (1 : Int32).toInt := ti_add (by omega) (by omega))
        have te5 := congrArg Int32.toInt e5
        exact ih x2 x3 x4_11 (by omega) (by omega)
      · have thc4 := neq hc4
        refine sat_ldA (okI_of (by omega)) fun v5 e7 => ?_
        refine sat_cal (s_J6_bitCount_0f7a4 ((a1 &&& (v5 ^^^ (-1 : Int32))) &&& (((1 : Int32) <<< (x4 &&& 31)) ^^^ (-1 : Int32)))) fun u6 hu6 => ?_
        obtain ⟨hu6_0, -⟩ := hu6
        refine sat_bnd fun x5_7 e8 => ?_
        have te8 := congrArg Int32.toInt e8
        refine sat_bnd fun x2_8 e9 => ?_
        try (have k10 : (x2 + x5_7).toInt = x2.toInt + x5_7.toInt := ti_add (by omega) (by omega))
        have te9 := congrArg Int32.toInt e9
        refine sat_bnd fun x3_9 e11 => ?_
        have te11 := mm e11
        refine sat_bnd fun x4_10 e12 => ?_
        try (have k13 : (x4 + (1 : Int32)).toInt = x4.toInt + (1 : Int32).toInt := ti_add (by omega) (by omega))
        have te12 := congrArg Int32.toInt e12
        exact ih x2_8 x3_9 x4_10 (by omega) (by omega)
theorem s_X1_isNearlyJoined (a1 : Int32) (t_near : Nat → Int32) : Sat (f_X1_isNearlyJoined a1 t_near) (fun r => (0 ≤ r.toInt ∧ r.toInt ≤ 1) ∧ True) := by
  unfold f_X1_isNearlyJoined
  have l0 : (0 : Int32).toInt = 0 := rfl
  refine sat_bnd fun x2_1 e1 => ?_
  have te1 := congrArg Int32.toInt e1
  refine sat_bnd fun x3_2 e2 => ?_
  have te2 := congrArg Int32.toInt e2
  refine sat_bnd fun x4_3 e3 => ?_
  have te3 := congrArg Int32.toInt e3
  have hNN := NN_i
  exact l_X1_isNearlyJoined_7 a1 t_near NN x2_1 x3_2 x4_3 (by omega) (by omega)
theorem l_X1_harmless_2 (a1 : Int32) (t_left : Int32) (t_near : Nat → Int32) (h_t_left : 0 ≤ t_left.toInt ∧ t_left.toInt ≤ 16383) : ∀ (n : Nat) (x2 : Int32), (0 ≤ x2.toInt ∧ x2.toInt ≤ 14) → 14 - x2.toInt < (n : Int) → Sat (L_X1_harmless_2 a1 t_left t_near n x2) (fun r => (-1 ≤ r.toInt ∧ r.toInt ≤ 13) ∧ True) := by
  intro n
  induction n with
  | zero => intro x2 h_x2 hM; exfalso; omega
  | succ n ih =>
    intro x2 h_x2 hM
    rw [L_X1_harmless_2]
    have l14 : (14 : Int32).toInt = 14 := rfl
    have lm1 : (-1 : Int32).toInt = -1 := rfl
    have l0 : (0 : Int32).toInt = 0 := rfl
    have l1 : (1 : Int32).toInt = 1 := rfl
    refine sat_ite (fun hc1 => ?_) (fun hc1 => ?_)
    · have thc1 := ple hc1
      exact sat_some ⟨(by omega), trivial⟩
    · have thc1 := nle hc1
      refine sat_cal (s_X8_hasBit t_left x2) fun u2 hu2 => ?_
      obtain ⟨hu2_0, -⟩ := hu2
      refine sat_ite (fun hc2 => ?_) (fun hc2 => ?_)
      · have thc2 := congrArg Int32.toInt hc2
        refine sat_bnd fun x2_3 e3 => ?_
        try (have k4 : (x2 + (1 : Int32)).toInt = x2.toInt + (1 : Int32).toInt := ti_add (by omega) (by omega))
        have te3 := congrArg Int32.toInt e3
        exact ih x2_3 (by omega) (by omega)
      · have thc2 := neq hc2
        refine sat_ldA (okI_of (by omega)) fun v4 e5 => ?_
        refine sat_cal (s_J6_bitCount_0f7a4 v4) fun u5 hu5 => ?_
        obtain ⟨hu5_0, -⟩ := hu5
        refine sat_ite (fun hc6 => ?_) (fun hc6 => ?_)
        · have thc6 := plt hc6
          refine sat_bnd fun x2_6 e7 => ?_
          try (have k8 : (x2 + (1 : Int32)).toInt = x2.toInt + (1 : Int32).toInt := ti_add (by omega) (by omega))
          have te7 := congrArg Int32.toInt e7
          exact ih x2_6 (by omega) (by omega)
        · have thc6 := nlt hc6
          refine sat_ldA (okI_of (by omega)) fun v7 e9 => ?_
          have tdv7 := congrArg Int32.toInt (e9.trans e5.symm)
          refine sat_cal (s_X1_isNearlyJoined v7 t_near) fun u8 hu8 => ?_
          obtain ⟨hu8_0, -⟩ := hu8
          refine sat_ite (fun hc10 => ?_) (fun hc10 => ?_)
          · have thc10 := congrArg Int32.toInt hc10
            refine sat_bnd fun x2_9 e11 => ?_
            try (have k12 : (x2 + (1 : Int32)).toInt = x2.toInt + (1 : Int32).toInt := ti_add (by omega) (by omega))
            have te11 := congrArg Int32.toInt e11
            exact ih x2_9 (by omega) (by omega)
          · have thc10 := neq hc10
            exact sat_some ⟨(by omega), trivial⟩
theorem s_X1_harmless (a1 : Int32) (t_left : Int32) (t_near : Nat → Int32) (h_t_left : 0 ≤ t_left.toInt ∧ t_left.toInt ≤ 16383) : Sat (f_X1_harmless a1 t_left t_near) (fun r => (-1 ≤ r.toInt ∧ r.toInt ≤ 13) ∧ True) := by
  unfold f_X1_harmless
  have l0 : (0 : Int32).toInt = 0 := rfl
  refine sat_bnd fun x2_1 e1 => ?_
  have te1 := congrArg Int32.toInt e1
  have hNN := NN_i
  exact l_X1_harmless_2 a1 t_left t_near (by omega) NN x2_1 (by omega) (by omega)
theorem s_X0_has (a1 : Int32) (t_size : Int32) (h_t_size : 0 ≤ t_size.toInt ∧ t_size.toInt ≤ 14) : Sat (f_X0_has a1 t_size) (fun r => ((r.toInt = 0 ∨ (0 ≤ a1.toInt ∧ a1.toInt < t_size.toInt)) ∧ 0 ≤ r.toInt ∧ r.toInt ≤ 1) ∧ True) := by
  unfold f_X0_has
  have l0 : (0 : Int32).toInt = 0 := rfl
  have l1 : (1 : Int32).toInt = 1 := rfl
  refine sat_ite (fun hc1 => ?_) (fun hc1 => ?_)
  · have thc1 := plt hc1
    exact sat_some ⟨(by omega), trivial⟩
  · have thc1 := nlt hc1
    refine sat_ite (fun hc2 => ?_) (fun hc2 => ?_)
    · have thc2 := ple hc2
      exact sat_some ⟨(by omega), trivial⟩
    · have thc2 := nle hc2
      exact sat_some ⟨(by omega), trivial⟩
theorem s_X0_empty (t_size : Int32) (h_t_size : 0 ≤ t_size.toInt ∧ t_size.toInt ≤ 14) : Sat (f_X0_empty t_size) (fun r => (0 ≤ r.toInt ∧ r.toInt ≤ 14) ∧ True) := by
  unfold f_X0_empty
  have l0 : (0 : Int32).toInt = 0 := rfl
  refine sat_bnd fun t_size_1 e1 => ?_
  have te1 := congrArg Int32.toInt e1
  exact sat_some ⟨(by omega), trivial⟩
theorem j_X0_append_22  : ∀ (a1 : Int32) (t_size : Int32) (t_masks : Nat → Int32) (t_ups : Nat → Int32), (0 ≤ t_size.toInt ∧ t_size.toInt ≤ 13) → Sat (J_X0_append_22 a1 t_size t_masks t_ups) (fun r => (0 ≤ (r.2.1).toInt ∧ (r.2.1).toInt ≤ 14) ∧ True) := by
  intro a1 t_size t_masks t_ups h_t_size
  unfold J_X0_append_22
  have l1 : (1 : Int32).toInt = 1 := rfl
  refine sat_stI (okI_of (by omega)) fun t_masks_1 e1 => ?_
  refine sat_stI (okI_of (by omega)) fun t_ups_2 e2 => ?_
  refine sat_bnd fun t_size_3 e3 => ?_
  try (have k4 : (t_size + (1 : Int32)).toInt = t_size.toInt + (1 : Int32).toInt := ti_add (by omega) (by omega))
  have te3 := congrArg Int32.toInt e3
  exact sat_some ⟨(by (try dsimp only); omega), trivial⟩
theorem s_X0_append (a1 : Int32) (t_size : Int32) (t_masks : Nat → Int32) (t_ups : Nat → Int32) (h_t_size : 0 ≤ t_size.toInt ∧ t_size.toInt ≤ 13) : Sat (f_X0_append a1 t_size t_masks t_ups) (fun r => (0 ≤ (r.2.1).toInt ∧ (r.2.1).toInt ≤ 14) ∧ True) := by
  unfold f_X0_append
  have l0 : (0 : Int32).toInt = 0 := rfl
  have l1 : (1 : Int32).toInt = 1 := rfl
  refine sat_ite (fun hc1 => ?_) (fun hc1 => ?_)
  · have thc1 := ple hc1
    exact j_X0_append_22 a1 t_size t_masks t_ups (by omega)
  · have thc1 := nle hc1
    try (have k3 : (t_size - (1 : Int32)).toInt = t_size.toInt - (1 : Int32).toInt := ti_sub (by omega) (by omega))
    refine sat_stI (okI_of (by omega)) fun t_ups_4 e2 => ?_
    exact j_X0_append_22 a1 t_size t_masks t_ups_4 (by omega)
theorem l_X0_takeApart_10 (u_size : Int32) (u_knots : Nat → Int32) (h_u_size : 0 ≤ u_size.toInt ∧ u_size.toInt ≤ 14) (h_u_knots : ∀ i, 0 ≤ (u_knots i).toInt ∧ (u_knots i).toInt ≤ 13) : ∀ (n : Nat) (x3 : Int32) (t_size : Int32) (t_masks : Nat → Int32) (t_ups : Nat → Int32) (v_left : Int32) (v_newEnds : Int32) (v_near : Nat → Int32), (0 ≤ x3.toInt ∧ x3.toInt ≤ 14) → (0 ≤ t_size.toInt ∧ t_size.toInt ≤ 14) → (0 ≤ v_left.toInt ∧ v_left.toInt ≤ 16383) → 14 - x3.toInt < (n : Int) → Sat (L_X0_takeApart_10 u_size u_knots n x3 t_size t_masks t_ups v_left v_newEnds v_near) (fun r => (0 ≤ (r.1).toInt ∧ (r.1).toInt ≤ 14) ∧ (0 ≤ (r.2.2.2.1).toInt ∧ (r.2.2.2.1).toInt ≤ 16383) ∧ True) := by
  intro n
  induction n with
  | zero => intro x3 t_size t_masks t_ups v_left v_newEnds v_near h_x3 h_t_size h_v_left hM; exfalso; omega
  | succ n ih =>
    intro x3 t_size t_masks t_ups v_left v_newEnds v_near h_x3 h_t_size h_v_left hM
    rw [L_X0_takeApart_10]
    have l1 : (1 : Int32).toInt = 1 := rfl
    refine sat_ite (fun hc1 => ?_) (fun hc1 => ?_)
    · have thc1 := ple hc1
      exact sat_some ⟨(by (try dsimp only); omega), (by (try dsimp only); omega), trivial⟩
    · have thc1 := nle hc1
      refine sat_ldA (okI_of (by omega)) fun v3 e2 => ?_
      have hv3 := ra_get e2 h_u_knots
      refine sat_bnd fun x4_4 e3 => ?_
      have te3 := congrArg Int32.toInt e3
      refine sat_ldA (okI_of (by omega)) fun v5 e4 => ?_
      refine sat_bnd fun x5_6 e5 => ?_
      have te5 := congrArg Int32.toInt e5
      refine sat_stI (okI_of (by omega)) fun t_masks_7 e6 => ?_
      refine sat_cal (s_X2_nextPlace x3 x5_6 u_size u_knots (by omega) (by omega) h_u_knots) fun u8 hu8 => ?_
      refine sat_stI (okI_of (by omega)) fun t_ups_9 e7 => ?_
      refine sat_cal (s_X1_letGo x4_4 v_left v_newEnds v_near (by omega) (by omega)) fun u10 hu10 => ?_
      obtain ⟨hu10_0, -⟩ := hu10
      refine sat_bnd fun x3_11 e8 => ?_
      try (have k9 : (x3 + (1 : Int32)).toInt = x3.toInt + (1 : Int32).toInt := ti_add (by omega) (by omega))
      have te8 := congrArg Int32.toInt e8
      exact ih x3_11 t_size t_masks_7 t_ups_9 u10.1 u10.2.1 u10.2.2 (by omega) (by omega) (by omega) (by omega)
theorem s_X0_takeApart (t_size : Int32) (t_masks : Nat → Int32) (t_ups : Nat → Int32) (u_size : Int32) (u_knots : Nat → Int32) (v_left : Int32) (v_newEnds : Int32) (v_near : Nat → Int32) (h_t_size : 0 ≤ t_size.toInt ∧ t_size.toInt ≤ 14) (h_u_size : 0 ≤ u_size.toInt ∧ u_size.toInt ≤ 14) (h_u_knots : ∀ i, 0 ≤ (u_knots i).toInt ∧ (u_knots i).toInt ≤ 13) (h_v_left : 0 ≤ v_left.toInt ∧ v_left.toInt ≤ 16383) : Sat (f_X0_takeApart t_size t_masks t_ups u_size u_knots v_left v_newEnds v_near) (fun r => (0 ≤ (r.1).toInt ∧ (r.1).toInt ≤ 14) ∧ (0 ≤ (r.2.2.2.1).toInt ∧ (r.2.2.2.1).toInt ≤ 16383) ∧ True) := by
  unfold f_X0_takeApart
  have l0 : (0 : Int32).toInt = 0 := rfl
  refine sat_bnd fun t_size_1 e1 => ?_
  have te1 := congrArg Int32.toInt e1
  refine sat_bnd fun x3_2 e2 => ?_
  have te2 := congrArg Int32.toInt e2
  have hNN := NN_i
  exact l_X0_takeApart_10 u_size u_knots (by omega) h_u_knots NN x3_2 t_size_1 t_masks t_ups v_left v_newEnds v_near (by omega) (by omega) (by omega) (by omega)
theorem l_X0_mostKnots_4 (t_size : Int32) (t_masks : Nat → Int32) (h_t_size : 0 ≤ t_size.toInt ∧ t_size.toInt ≤ 14) : ∀ (n : Nat) (x1 : Int32) (x2 : Int32), (0 ≤ x2.toInt ∧ x2.toInt ≤ 14) → 14 - x2.toInt < (n : Int) → Sat (L_X0_mostKnots_4 t_size t_masks n x1 x2) (fun r => True) := by
  intro n
  induction n with
  | zero => intro x1 x2 h_x2 hM; exfalso; omega
  | succ n ih =>
    intro x1 x2 h_x2 hM
    rw [L_X0_mostKnots_4]
    have l1 : (1 : Int32).toInt = 1 := rfl
    refine sat_ite (fun hc1 => ?_) (fun hc1 => ?_)
    · have thc1 := ple hc1
      exact sat_some trivial
    · have thc1 := nle hc1
      refine sat_ldA (okI_of (by omega)) fun v3 e2 => ?_
      refine sat_cal (s_J6_bitCount_0f7a4 v3) fun u4 hu4 => ?_
      obtain ⟨hu4_0, -⟩ := hu4
      refine sat_bnd fun x1_5 e3 => ?_
      have te3 := mm e3
      refine sat_bnd fun x2_6 e4 => ?_
      try (have k5 : (x2 + (1 : Int32)).toInt = x2.toInt + (1 : Int32).toInt := ti_add (by omega) (by omega))
      have te4 := congrArg Int32.toInt e4
      exact ih x1_5 x2_6 (by omega) (by omega)
theorem s_X0_mostKnots (t_size : Int32) (t_masks : Nat → Int32) (h_t_size : 0 ≤ t_size.toInt ∧ t_size.toInt ≤ 14) : Sat (f_X0_mostKnots t_size t_masks) (fun r => True) := by
  unfold f_X0_mostKnots
  have l0 : (0 : Int32).toInt = 0 := rfl
  refine sat_bnd fun x1_1 e1 => ?_
  have te1 := congrArg Int32.toInt e1
  refine sat_bnd fun x2_2 e2 => ?_
  have te2 := congrArg Int32.toInt e2
  have hNN := NN_i
  exact l_X0_mostKnots_4 t_size t_masks (by omega) NN x1_1 x2_2 (by omega) (by omega)
theorem l_X0_hangingOn_4 (a1 : Int32) (t_size : Int32) (t_ups : Nat → Int32) (h_t_size : 0 ≤ t_size.toInt ∧ t_size.toInt ≤ 14) : ∀ (n : Nat) (x2 : Int32) (x3 : Int32), (0 ≤ x3.toInt ∧ x3.toInt ≤ 14) → 14 - x3.toInt < (n : Int) → Sat (L_X0_hangingOn_4 a1 t_size t_ups n x2 x3) (fun r => True) := by
  intro n
  induction n with
  | zero => intro x2 x3 h_x3 hM; exfalso; omega
  | succ n ih =>
    intro x2 x3 h_x3 hM
    rw [L_X0_hangingOn_4]
    have l1 : (1 : Int32).toInt = 1 := rfl
    refine sat_ite (fun hc1 => ?_) (fun hc1 => ?_)
    · have thc1 := ple hc1
      exact sat_some trivial
    · have thc1 := nle hc1
      refine sat_ldA (okI_of (by omega)) fun v3 e2 => ?_
      refine sat_ite (fun hc3 => ?_) (fun hc3 => ?_)
      · have thc3 := congrArg Int32.toInt hc3
        refine sat_bnd fun x2_5 e4 => ?_
        try (have k5 : (x2 + (1 : Int32)).toInt = x2.toInt + (1 : Int32).toInt := ti_add (by omega) (by omega))
        have te4 := congrArg Int32.toInt e4
        refine sat_bnd fun x3_6 e6 => ?_
        try (have k7 : (x3 + (1 : Int32)).toInt = x3.toInt + (1 : Int32).toInt := ti_add (by omega) (by omega))
        have te6 := congrArg Int32.toInt e6
        exact ih x2_5 x3_6 (by omega) (by omega)
      · have thc3 := neq hc3
        refine sat_bnd fun x3_4 e8 => ?_
        try (have k9 : (x3 + (1 : Int32)).toInt = x3.toInt + (1 : Int32).toInt := ti_add (by omega) (by omega))
        have te8 := congrArg Int32.toInt e8
        exact ih x2 x3_4 (by omega) (by omega)
theorem s_X0_hangingOn (a1 : Int32) (t_size : Int32) (t_ups : Nat → Int32) (h_t_size : 0 ≤ t_size.toInt ∧ t_size.toInt ≤ 14) : Sat (f_X0_hangingOn a1 t_size t_ups) (fun r => True) := by
  unfold f_X0_hangingOn
  have l0 : (0 : Int32).toInt = 0 := rfl
  refine sat_bnd fun x2_1 e1 => ?_
  have te1 := congrArg Int32.toInt e1
  refine sat_bnd fun x3_2 e2 => ?_
  have te2 := congrArg Int32.toInt e2
  have hNN := NN_i
  exact l_X0_hangingOn_4 a1 t_size t_ups (by omega) NN x2_1 x3_2 (by omega) (by omega)
theorem s_X0_endingIn (a1 : Int32) (t_size : Int32) (t_masks : Nat → Int32) (t_ups : Nat → Int32) (h_a1 : 0 ≤ a1.toInt ∧ a1.toInt ≤ 13) (h_t_size : 0 ≤ t_size.toInt ∧ t_size.toInt ≤ 14) : Sat (f_X0_endingIn a1 t_size t_masks t_ups) (fun r => True) := by
  unfold f_X0_endingIn
  have l0 : (0 : Int32).toInt = 0 := rfl
  refine sat_ldA (okI_of (by omega)) fun v1 e1 => ?_
  refine sat_bnd fun x2_2 e2 => ?_
  have te2 := congrArg Int32.toInt e2
  refine sat_cal (s_X0_has x2_2 t_size (by omega)) fun u3 hu3 => ?_
  obtain ⟨hu3_0, -⟩ := hu3
  refine sat_ite (fun hc3 => ?_) (fun hc3 => ?_)
  · have thc3 := congrArg Int32.toInt hc3
    refine sat_ldA (okI_of (by omega)) fun v4 e4 => ?_
    exact sat_some trivial
  · have thc3 := neq hc3
    refine sat_ldA (okI_of (by omega)) fun v5 e5 => ?_
    refine sat_ldA (okI_of (by omega)) fun v6 e6 => ?_
    exact sat_some trivial
theorem l_X0_matesOf_4 (a1 : Int32) (t_size : Int32) (t_masks : Nat → Int32) (h_t_size : 0 ≤ t_size.toInt ∧ t_size.toInt ≤ 14) : ∀ (n : Nat) (x2 : Int32) (x3 : Int32), (0 ≤ x3.toInt ∧ x3.toInt ≤ 14) → 14 - x3.toInt < (n : Int) → Sat (L_X0_matesOf_4 a1 t_size t_masks n x2 x3) (fun r => True) := by
  intro n
  induction n with
  | zero => intro x2 x3 h_x3 hM; exfalso; omega
  | succ n ih =>
    intro x2 x3 h_x3 hM
    rw [L_X0_matesOf_4]
    have l0 : (0 : Int32).toInt = 0 := rfl
    have l1 : (1 : Int32).toInt = 1 := rfl
    refine sat_ite (fun hc1 => ?_) (fun hc1 => ?_)
    · have thc1 := ple hc1
      exact sat_some trivial
    · have thc1 := nle hc1
      refine sat_ldA (okI_of (by omega)) fun v3 e2 => ?_
      refine sat_cal (s_X8_hasBit v3 a1) fun u4 hu4 => ?_
      obtain ⟨hu4_0, -⟩ := hu4
      refine sat_ite (fun hc3 => ?_) (fun hc3 => ?_)
      · have thc3 := congrArg Int32.toInt hc3
        refine sat_bnd fun x3_5 e4 => ?_
        try (have k5 : (x3 + (1 : Int32)).toInt = x3.toInt + (1 : Int32).toInt := ti_add (by omega) (by omega))
        have te4 := congrArg Int32.toInt e4
        exact ih x2 x3_5 (by omega) (by omega)
      · have thc3 := neq hc3
        refine sat_ldA (okI_of (by omega)) fun v6 e6 => ?_
        have tdv6 := congrArg Int32.toInt (e6.trans e2.symm)
        refine sat_bnd fun x2_7 e7 => ?_
        refine sat_bnd fun x3_8 e8 => ?_
        try (have k9 : (x3 + (1 : Int32)).toInt = x3.toInt + (1 : Int32).toInt := ti_add (by omega) (by omega))
        have te8 := congrArg Int32.toInt e8
        exact ih x2_7 x3_8 (by omega) (by omega)
theorem s_X0_matesOf (a1 : Int32) (t_size : Int32) (t_masks : Nat → Int32) (h_t_size : 0 ≤ t_size.toInt ∧ t_size.toInt ≤ 14) : Sat (f_X0_matesOf a1 t_size t_masks) (fun r => True) := by
  unfold f_X0_matesOf
  have l0 : (0 : Int32).toInt = 0 := rfl
  refine sat_bnd fun x2_1 e1 => ?_
  have te1 := congrArg Int32.toInt e1
  refine sat_bnd fun x3_2 e2 => ?_
  have te2 := congrArg Int32.toInt e2
  have hNN := NN_i
  exact l_X0_matesOf_4 a1 t_size t_masks (by omega) NN x2_1 x3_2 (by omega) (by omega)
theorem l_X0_holdTogether_2 (a1 : Int32) (t_size : Int32) (t_masks : Nat → Int32) (h_t_size : 0 ≤ t_size.toInt ∧ t_size.toInt ≤ 14) : ∀ (n : Nat) (x2 : Int32), (0 ≤ x2.toInt ∧ x2.toInt ≤ 14) → 14 - x2.toInt < (n : Int) → Sat (L_X0_holdTogether_2 a1 t_size t_masks n x2) (fun r => (0 ≤ r.toInt ∧ r.toInt ≤ 1) ∧ True) := by
  intro n
  induction n with
  | zero => intro x2 h_x2 hM; exfalso; omega
  | succ n ih =>
    intro x2 h_x2 hM
    rw [L_X0_holdTogether_2]
    have l0 : (0 : Int32).toInt = 0 := rfl
    have l1 : (1 : Int32).toInt = 1 := rfl
    refine sat_ite (fun hc1 => ?_) (fun hc1 => ?_)
    · have thc1 := ple hc1
      exact sat_some ⟨(by omega), trivial⟩
    · have thc1 := nle hc1
      refine sat_ldA (okI_of (by omega)) fun v2 e2 => ?_
      refine sat_ite (fun hc3 => ?_) (fun hc3 => ?_)
      · have thc3 := congrArg Int32.toInt hc3
        exact sat_some ⟨(by omega), trivial⟩
      · have thc3 := neq hc3
        refine sat_bnd fun x2_3 e4 => ?_
        try (have k5 : (x2 + (1 : Int32)).toInt = x2.toInt + (1 : Int32).toInt := ti_add (by omega) (by omega))
        have te4 := congrArg Int32.toInt e4
        exact ih x2_3 (by omega) (by omega)
theorem s_X0_holdTogether (a1 : Int32) (t_size : Int32) (t_masks : Nat → Int32) (h_t_size : 0 ≤ t_size.toInt ∧ t_size.toInt ≤ 14) : Sat (f_X0_holdTogether a1 t_size t_masks) (fun r => (0 ≤ r.toInt ∧ r.toInt ≤ 1) ∧ True) := by
  unfold f_X0_holdTogether
  have l0 : (0 : Int32).toInt = 0 := rfl
  refine sat_bnd fun x2_1 e1 => ?_
  have te1 := congrArg Int32.toInt e1
  have hNN := NN_i
  exact l_X0_holdTogether_2 a1 t_size t_masks (by omega) NN x2_1 (by omega) (by omega)
theorem l_X0_looseEdge_14 (t_size : Int32) (t_masks : Nat → Int32) (u_size : Int32) (u_near : Nat → Int32) (k_2 : Int32 → Option (Int32)) (g_2 : Int) (h_t_size : 0 ≤ t_size.toInt ∧ t_size.toInt ≤ 14) (h_u_size : 0 ≤ u_size.toInt ∧ u_size.toInt ≤ 14) (hk_2 : ∀ (x2 : Int32), (0 ≤ x2.toInt ∧ x2.toInt ≤ 14) → (14 - x2.toInt < g_2) → Sat (k_2 x2) (fun r => True)) : ∀ (n : Nat) (x2 : Int32) (x3 : Int32), (0 ≤ x2.toInt ∧ x2.toInt ≤ 13) → (0 ≤ x3.toInt ∧ x3.toInt ≤ 14) → (14 - x2.toInt ≤ g_2) → 14 - x3.toInt < (n : Int) → Sat (L_X0_looseEdge_14 t_size t_masks u_size u_near k_2 n x2 x3) (fun r => True) := by
  intro n
  induction n with
  | zero => intro x2 x3 h_x2 h_x3 hg_2 hM; exfalso; omega
  | succ n ih =>
    intro x2 x3 h_x2 h_x3 hg_2 hM
    rw [L_X0_looseEdge_14]
    have l1 : (1 : Int32).toInt = 1 := rfl
    have l0 : (0 : Int32).toInt = 0 := rfl
    refine sat_ite (fun hc1 => ?_) (fun hc1 => ?_)
    · have thc1 := ple hc1
      refine sat_bnd fun x2_3 e2 => ?_
      try (have k3 : (x2 + (1 : Int32)).toInt = x2.toInt + (1 : Int32).toInt := ti_add (by omega) (by omega))
      have te2 := congrArg Int32.toInt e2
      exact hk_2 x2_3 (by omega) (by omega)
    · have thc1 := nle hc1
      refine sat_cal (s_X4_joined x2 x3 u_size u_near (by omega)) fun u4 hu4 => ?_
      obtain ⟨hu4_0, -⟩ := hu4
      refine sat_ite (fun hc4 => ?_) (fun hc4 => ?_)
      · have thc4 := congrArg Int32.toInt hc4
        refine sat_bnd fun x3_5 e5 => ?_
        try (have k6 : (x3 + (1 : Int32)).toInt = x3.toInt + (1 : Int32).toInt := ti_add (by omega) (by omega))
        have te5 := congrArg Int32.toInt e5
        exact ih x2 x3_5 (by omega) (by omega) (by omega) (by omega)
      · have thc4 := neq hc4
        refine sat_cal (s_X0_holdTogether (((1 : Int32) <<< (x2 &&& 31)) ||| ((1 : Int32) <<< (x3 &&& 31))) t_size t_masks (by omega)) fun u6 hu6 => ?_
        obtain ⟨hu6_0, -⟩ := hu6
        refine sat_ite (fun hc7 => ?_) (fun hc7 => ?_)
        · have thc7 := congrArg Int32.toInt hc7
          exact sat_some trivial
        · have thc7 := neq hc7
          refine sat_bnd fun x3_7 e8 => ?_
          try (have k9 : (x3 + (1 : Int32)).toInt = x3.toInt + (1 : Int32).toInt := ti_add (by omega) (by omega))
          have te8 := congrArg Int32.toInt e8
          exact ih x2 x3_7 (by omega) (by omega) (by omega) (by omega)
theorem l_X0_looseEdge_2 (t_size : Int32) (t_masks : Nat → Int32) (u_size : Int32) (u_near : Nat → Int32) (h_t_size : 0 ≤ t_size.toInt ∧ t_size.toInt ≤ 14) (h_u_size : 0 ≤ u_size.toInt ∧ u_size.toInt ≤ 14) : ∀ (n : Nat) (x2 : Int32), (0 ≤ x2.toInt ∧ x2.toInt ≤ 14) → 14 - x2.toInt < (n : Int) → Sat (L_X0_looseEdge_2 t_size t_masks u_size u_near n x2) (fun r => True) := by
  intro n
  induction n with
  | zero => intro x2 h_x2 hM; exfalso; omega
  | succ n ih =>
    intro x2 h_x2 hM
    rw [L_X0_looseEdge_2]
    have l1 : (1 : Int32).toInt = 1 := rfl
    refine sat_ite (fun hc1 => ?_) (fun hc1 => ?_)
    · have thc1 := ple hc1
      exact sat_some trivial
    · have thc1 := nle hc1
      refine sat_bnd fun x3_2 e2 => ?_
      try (have k3 : (x2 + (1 : Int32)).toInt = x2.toInt + (1 : Int32).toInt := ti_add (by omega) (by omega))
      have te2 := congrArg Int32.toInt e2
      have hNN := NN_i
      exact l_X0_looseEdge_14 t_size t_masks u_size u_near (fun y0 => L_X0_looseEdge_2 t_size t_masks u_size u_near n y0) (n : Int) (by omega) (by omega) (fun y0 z0 zm => ih y0 z0 zm) NN x2 x3_2 (by omega) (by omega) (by omega) (by omega)
theorem s_X0_looseEdge (t_size : Int32) (t_masks : Nat → Int32) (u_size : Int32) (u_near : Nat → Int32) (h_t_size : 0 ≤ t_size.toInt ∧ t_size.toInt ≤ 14) (h_u_size : 0 ≤ u_size.toInt ∧ u_size.toInt ≤ 14) : Sat (f_X0_looseEdge t_size t_masks u_size u_near) (fun r => True) := by
  unfold f_X0_looseEdge
  have l0 : (0 : Int32).toInt = 0 := rfl
  refine sat_bnd fun x2_1 e1 => ?_
  have te1 := congrArg Int32.toInt e1
  have hNN := NN_i
  exact l_X0_looseEdge_2 t_size t_masks u_size u_near (by omega) (by omega) NN x2_1 (by omega) (by omega)
theorem l_X0_missingKnot_2 (t_size : Int32) (t_masks : Nat → Int32) (u_size : Int32) (h_t_size : 0 ≤ t_size.toInt ∧ t_size.toInt ≤ 14) (h_u_size : 0 ≤ u_size.toInt ∧ u_size.toInt ≤ 14) : ∀ (n : Nat) (x2 : Int32), (0 ≤ x2.toInt ∧ x2.toInt ≤ 14) → 14 - x2.toInt < (n : Int) → Sat (L_X0_missingKnot_2 t_size t_masks u_size n x2) (fun r => True) := by
  intro n
  induction n with
  | zero => intro x2 h_x2 hM; exfalso; omega
  | succ n ih =>
    intro x2 h_x2 hM
    rw [L_X0_missingKnot_2]
    have l0 : (0 : Int32).toInt = 0 := rfl
    have l1 : (1 : Int32).toInt = 1 := rfl
    refine sat_ite (fun hc1 => ?_) (fun hc1 => ?_)
    · have thc1 := ple hc1
      exact sat_some trivial
    · have thc1 := nle hc1
      refine sat_cal (s_X0_holdTogether ((1 : Int32) <<< (x2 &&& 31)) t_size t_masks (by omega)) fun u2 hu2 => ?_
      obtain ⟨hu2_0, -⟩ := hu2
      refine sat_ite (fun hc2 => ?_) (fun hc2 => ?_)
      · have thc2 := congrArg Int32.toInt hc2
        exact sat_some trivial
      · have thc2 := neq hc2
        refine sat_bnd fun x2_3 e3 => ?_
        try (have k4 : (x2 + (1 : Int32)).toInt = x2.toInt + (1 : Int32).toInt := ti_add (by omega) (by omega))
        have te3 := congrArg Int32.toInt e3
        exact ih x2_3 (by omega) (by omega)
theorem s_X0_missingKnot (t_size : Int32) (t_masks : Nat → Int32) (u_size : Int32) (h_t_size : 0 ≤ t_size.toInt ∧ t_size.toInt ≤ 14) (h_u_size : 0 ≤ u_size.toInt ∧ u_size.toInt ≤ 14) : Sat (f_X0_missingKnot t_size t_masks u_size) (fun r => True) := by
  unfold f_X0_missingKnot
  have l0 : (0 : Int32).toInt = 0 := rfl
  refine sat_bnd fun x2_1 e1 => ?_
  have te1 := congrArg Int32.toInt e1
  have hNN := NN_i
  exact l_X0_missingKnot_2 t_size t_masks u_size (by omega) (by omega) NN x2_1 (by omega) (by omega)
theorem l_X0_scatteredKnot_45 (t_size : Int32) (t_masks : Nat → Int32) (t_ups : Nat → Int32) (u_size : Int32) (h_t_size : 0 ≤ t_size.toInt ∧ t_size.toInt ≤ 14) (h_u_size : 0 ≤ u_size.toInt ∧ u_size.toInt ≤ 14) : ∀ (n : Nat) (x3 : Int32) (x4 : Int32), (0 ≤ x4.toInt ∧ x4.toInt ≤ 14) → 14 - x4.toInt < (n : Int) → Sat (L_X0_scatteredKnot_45 t_size t_masks t_ups u_size n x3 x4) (fun r => True) := by
  intro n
  induction n with
  | zero => intro x3 x4 h_x4 hM; exfalso; omega
  | succ n ih =>
    intro x3 x4 h_x4 hM
    rw [L_X0_scatteredKnot_45]
    have l0 : (0 : Int32).toInt = 0 := rfl
    have l1 : (1 : Int32).toInt = 1 := rfl
    refine sat_ite (fun hc1 => ?_) (fun hc1 => ?_)
    · have thc1 := ple hc1
      exact sat_some trivial
    · have thc1 := nle hc1
      refine sat_cal (s_X8_hasBit x3 x4) fun u5 hu5 => ?_
      obtain ⟨hu5_0, -⟩ := hu5
      refine sat_ite (fun hc2 => ?_) (fun hc2 => ?_)
      · have thc2 := congrArg Int32.toInt hc2
        refine sat_bnd fun x4_6 e3 => ?_
        try (have k4 : (x4 + (1 : Int32)).toInt = x4.toInt + (1 : Int32).toInt := ti_add (by omega) (by omega))
        have te3 := congrArg Int32.toInt e3
        exact ih x3 x4_6 (by omega) (by omega)
      · have thc2 := neq hc2
        exact sat_some trivial
theorem l_X0_scatteredKnot_7 (t_size : Int32) (t_masks : Nat → Int32) (t_ups : Nat → Int32) (u_size : Int32) (h_t_size : 0 ≤ t_size.toInt ∧ t_size.toInt ≤ 14) (h_u_size : 0 ≤ u_size.toInt ∧ u_size.toInt ≤ 14) : ∀ (n : Nat) (x2 : Int32) (x3 : Int32) (x4 : Int32), (0 ≤ x4.toInt ∧ x4.toInt ≤ 14) → 14 - x4.toInt < (n : Int) → Sat (L_X0_scatteredKnot_7 t_size t_masks t_ups u_size n x2 x3 x4) (fun r => True) := by
  intro n
  induction n with
  | zero => intro x2 x3 x4 h_x4 hM; exfalso; omega
  | succ n ih =>
    intro x2 x3 x4 h_x4 hM
    rw [L_X0_scatteredKnot_7]
    have l0 : (0 : Int32).toInt = 0 := rfl
    have l1 : (1 : Int32).toInt = 1 := rfl
    refine sat_ite (fun hc1 => ?_) (fun hc1 => ?_)
    · have thc1 := ple hc1
      refine sat_bnd fun x4_4 e2 => ?_
      have te2 := congrArg Int32.toInt e2
      have hNN := NN_i
      exact l_X0_scatteredKnot_45 t_size t_masks t_ups u_size (by omega) (by omega) NN x3 x4_4 (by omega) (by omega)
    · have thc1 := nle hc1
      refine sat_cal (s_X0_endingIn x4 t_size t_masks t_ups (by omega) (by omega)) fun u7 hu7 => ?_
      refine sat_bnd fun x5_8 e3 => ?_
      have te3 := congrArg Int32.toInt e3
      refine sat_bnd fun x3_9 e4 => ?_
      refine sat_bnd fun x2_10 e5 => ?_
      refine sat_bnd fun x4_11 e6 => ?_
      try (have k7 : (x4 + (1 : Int32)).toInt = x4.toInt + (1 : Int32).toInt := ti_add (by omega) (by omega))
      have te6 := congrArg Int32.toInt e6
      exact ih x2_10 x3_9 x4_11 (by omega) (by omega)
theorem s_X0_scatteredKnot (t_size : Int32) (t_masks : Nat → Int32) (t_ups : Nat → Int32) (u_size : Int32) (h_t_size : 0 ≤ t_size.toInt ∧ t_size.toInt ≤ 14) (h_u_size : 0 ≤ u_size.toInt ∧ u_size.toInt ≤ 14) : Sat (f_X0_scatteredKnot t_size t_masks t_ups u_size) (fun r => True) := by
  unfold f_X0_scatteredKnot
  have l0 : (0 : Int32).toInt = 0 := rfl
  refine sat_bnd fun x2_1 e1 => ?_
  have te1 := congrArg Int32.toInt e1
  refine sat_bnd fun x3_2 e2 => ?_
  have te2 := congrArg Int32.toInt e2
  refine sat_bnd fun x4_3 e3 => ?_
  have te3 := congrArg Int32.toInt e3
  have hNN := NN_i
  exact l_X0_scatteredKnot_7 t_size t_masks t_ups u_size (by omega) (by omega) NN x2_1 x3_2 x4_3 (by omega) (by omega)
theorem j_X0_fault_16  : ∀ (t_size : Int32) (t_masks : Nat → Int32) (t_ups : Nat → Int32) (u_size : Int32) (u_near : Nat → Int32) (x2 : Int32), (0 ≤ t_size.toInt ∧ t_size.toInt ≤ 14) → (0 ≤ u_size.toInt ∧ u_size.toInt ≤ 14) → Sat (J_X0_fault_16 t_size t_masks t_ups u_size u_near x2) (fun r => True) := by
  intro t_size t_masks t_ups u_size u_near x2 h_t_size h_u_size
  unfold J_X0_fault_16
  have l0 : (0 : Int32).toInt = 0 := rfl
  refine sat_ite (fun hc1 => ?_) (fun hc1 => ?_)
  · have thc1 := congrArg Int32.toInt hc1
    refine sat_cal (s_X0_scatteredKnot t_size t_masks t_ups u_size (by omega) (by omega)) fun u3 hu3 => ?_
    refine sat_bnd fun x2_4 e2 => ?_
    have te2 := congrArg Int32.toInt e2
    exact sat_some trivial
  · have thc1 := neq hc1
    exact sat_some trivial
theorem s_X0_fault (t_size : Int32) (t_masks : Nat → Int32) (t_ups : Nat → Int32) (u_size : Int32) (u_near : Nat → Int32) (h_t_size : 0 ≤ t_size.toInt ∧ t_size.toInt ≤ 14) (h_u_size : 0 ≤ u_size.toInt ∧ u_size.toInt ≤ 14) : Sat (f_X0_fault t_size t_masks t_ups u_size u_near) (fun r => True) := by
  unfold f_X0_fault
  have l0 : (0 : Int32).toInt = 0 := rfl
  refine sat_cal (s_X0_looseEdge t_size t_masks u_size u_near (by omega) (by omega)) fun u1 hu1 => ?_
  refine sat_bnd fun x2_2 e1 => ?_
  have te1 := congrArg Int32.toInt e1
  refine sat_ite (fun hc2 => ?_) (fun hc2 => ?_)
  · have thc2 := congrArg Int32.toInt hc2
    refine sat_cal (s_X0_missingKnot t_size t_masks u_size (by omega) (by omega)) fun u5 hu5 => ?_
    refine sat_bnd fun x2_6 e3 => ?_
    have te3 := congrArg Int32.toInt e3
    exact j_X0_fault_16 t_size t_masks t_ups u_size u_near x2_6 (by omega) (by omega)
  · have thc2 := neq hc2
    exact j_X0_fault_16 t_size t_masks t_ups u_size u_near x2_2 (by omega) (by omega)
