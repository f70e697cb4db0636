theorem s_X6_isStuck (a1 : Int32) (t_stuck : Nat → Int64) (h : 0 ≤ a1.toInt ∧ a1.toInt ≤ 16383) : Sat (f_X6_isStuck a1 t_stuck) (fun r => (0 ≤ r.toInt ∧ r.toInt ≤ 1) ∧ True) := by
  unfold f_X6_isStuck
  have l0 : (0 : Int32).toInt = 0 := rfl
  have l1 : (1 : Int32).toInt = 1 := rfl
  refine sat_ldA (okI_of (sh6 h)) fun v ev => ?_
  refine sat_ite (fun _ => ?_) (fun _ => ?_)
  · exact sat_some ⟨by omega, trivial⟩
  · exact sat_some ⟨by omega, trivial⟩
theorem sat_ckI {β : Type} {i : Int32} {n : Nat} {k : Option β} {P : β → Prop} (hi : okI i n) (h : Sat k P) : Sat (ckI i n k) P := by
  unfold ckI; rw [if_pos hi]; exact h
theorem lf_upd {f : Nat → Int32} {k : Nat} {x : Int32} (h : ∀ i, 0 ≤ (f i).toInt ∧ (f i).toInt ≤ 16383) (hx : 0 ≤ x.toInt ∧ x.toInt ≤ 16383) : ∀ i, 0 ≤ (upd f k x i).toInt ∧ (upd f k x i).toInt ≤ 16383 := ra_upd rfl h hx
abbrev FitsT : Type := Int32 → Int32 → (Nat → Int64) → (Nat → Int32) → (Nat → Int32) → (Nat → Nat → Int32) → Option (Int32 × (Nat → Int64) × (Nat → Int32) × (Nat → Int32) × (Nat → Nat → Int32))
abbrev FitsP (r : Int32 × (Nat → Int64) × (Nat → Int32) × (Nat → Int32) × (Nat → Nat → Int32)) : Prop := (0 ≤ r.1.toInt ∧ r.1.toInt ≤ 1) ∧ (∀ i, 0 ≤ (r.2.2.1 i).toInt ∧ (r.2.2.1 i).toInt ≤ 16383) ∧ True
def FitsS (FF : FitsT) (d : Int) : Prop := ∀ (a1 t_limit : Int32) (t_stuck : Nat → Int64) (lf ne : Nat → Int32) (nr : Nat → Nat → Int32), 0 ≤ a1.toInt ∧ a1.toInt ≤ 14 → d ≤ a1.toInt → (∀ i, 0 ≤ (lf i).toInt ∧ (lf i).toInt ≤ 16383) → Sat (FF a1 t_limit t_stuck lf ne nr) FitsP
theorem s_X6_fitsBehindL (FF : FitsT) {d : Int} (hF : FitsS FF d) (J : Nat) (a2 a3 t_limit : Int32) (t_stuck : Nat → Int64) (lf ne : Nat → Int32) (nr : Nat → Nat → Int32) (h2 : 0 ≤ a2.toInt ∧ a2.toInt ≤ 13) (h3 : 0 ≤ a3.toInt ∧ a3.toInt ≤ 14) (hd : d ≤ a3.toInt) (hJ : J ≠ a3.toNatClampNeg) (hl : ∀ i, 0 ≤ (lf i).toInt ∧ (lf i).toInt ≤ 16383) : Sat (f_X6_fitsBehindL FF J a2 a3 t_limit t_stuck lf ne nr) FitsP := by
  unfold f_X6_fitsBehindL
  have l0 : (0 : Int32).toInt = 0 := rfl
  refine sat_cal (s_X8_hasBit _ _) fun u1 hu1 => ?_
  refine sat_ite (fun _ => ?_) (fun _ => ?_)
  · exact sat_some ⟨by dsimp only; omega, hl, trivial⟩
  · refine sat_ldA (okI_of (by omega)) fun v2 e2 => ?_
    refine sat_cal (s_J6_bitCount_0f7a4 _) fun u3 hu3 => ?_
    refine sat_ite (fun _ => ?_) (fun _ => ?_)
    · refine sat_ckI (okI_of (by omega)) ?_
      refine sat_chk hJ ?_
      refine sat_cal (s_X1_startAs _ _ _ _ _ _ (hl _) (hl _)) fun u4 hu4 => ?_
      refine sat_ckI (okI_of (by omega)) ?_
      have hl4 := lf_upd (k := a3.toNatClampNeg) hl hu4.1
      refine sat_cal (s_X1_letGo a2 _ _ _ h2 (hl4 _)) fun u5 hu5 => ?_
      refine sat_cal (hF a3 t_limit _ _ _ _ h3 hd (lf_upd hl4 hu5.1)) fun u6 hu6 => ?_
      refine sat_chk (b01 hu6.1) ?_
      exact sat_some ⟨hu6.1, hu6.2.1, trivial⟩
    · exact sat_some ⟨by dsimp only; omega, hl, trivial⟩
theorem s_X6_fitsBehindR0 (FF : FitsT) {d : Int} (hF : FitsS FF d) (a2 a3 t_limit t_rest_left t_rest_newEnds : Int32) (t_rest_near : Nat → Int32) (t_stuck : Nat → Int64) (lf ne : Nat → Int32) (nr : Nat → Nat → Int32) (h2 : 0 ≤ a2.toInt ∧ a2.toInt ≤ 13) (h3 : 0 ≤ a3.toInt ∧ a3.toInt ≤ 14) (hd : d ≤ a3.toInt) (hr : 0 ≤ t_rest_left.toInt ∧ t_rest_left.toInt ≤ 16383) (hl : ∀ i, 0 ≤ (lf i).toInt ∧ (lf i).toInt ≤ 16383) : Sat (f_X6_fitsBehindR FF a2 a3 t_limit t_rest_left t_rest_newEnds t_rest_near t_stuck lf ne nr) FitsP := by
  unfold f_X6_fitsBehindR
  have l0 : (0 : Int32).toInt = 0 := rfl
  refine sat_cal (s_X8_hasBit _ _) fun u1 hu1 => ?_
  refine sat_ite (fun _ => ?_) (fun _ => ?_)
  · exact sat_some ⟨by dsimp only; omega, hl, trivial⟩
  · refine sat_ldA (okI_of (by omega)) fun v2 e2 => ?_
    refine sat_cal (s_J6_bitCount_0f7a4 _) fun u3 hu3 => ?_
    refine sat_ite (fun _ => ?_) (fun _ => ?_)
    · refine sat_ckI (okI_of (by omega)) ?_
      refine sat_cal (s_X1_startAs _ _ _ _ _ _ (hl _) hr) fun u4 hu4 => ?_
      refine sat_ckI (okI_of (by omega)) ?_
      have hl4 := lf_upd (k := a3.toNatClampNeg) hl hu4.1
      refine sat_cal (s_X1_letGo a2 _ _ _ h2 (hl4 _)) fun u5 hu5 => ?_
      refine sat_cal (hF a3 t_limit _ _ _ _ h3 hd (lf_upd hl4 hu5.1)) fun u6 hu6 => ?_
      refine sat_chk (b01 hu6.1) ?_
      exact sat_some ⟨hu6.1, hu6.2.1, trivial⟩
    · exact sat_some ⟨by dsimp only; omega, hl, trivial⟩
theorem l_X6_fitsG_90 (FF : FitsT) {d : Int} (hF : FitsS FF d) (a1 t_limit : Int32) (h1 : 0 ≤ a1.toInt ∧ a1.toInt ≤ 13) (hd : d ≤ a1.toInt + 1) : ∀ (n : Nat) (x3 : Int32) (t_stuck : Nat → Int64) (lf ne : Nat → Int32) (nr : Nat → Nat → Int32), (0 ≤ x3.toInt ∧ x3.toInt ≤ 14) → (∀ i, 0 ≤ (lf i).toInt ∧ (lf i).toInt ≤ 16383) → 14 - x3.toInt < (n : Int) → Sat (L_X6_fitsG_90 FF a1 t_limit n x3 t_stuck lf ne nr) FitsP := by
  intro n
  induction n with
  | zero => intro x3 t_stuck lf ne nr hx hl hM; exfalso; omega
  | succ n ih =>
    intro x3 t_stuck lf ne nr hx hl hM
    rw [L_X6_fitsG_90]
    have l0 : (0 : Int32).toInt = 0 := rfl
    have l1 : (1 : Int32).toInt = 1 := rfl
    have l14 : (14 : Int32).toInt = 14 := rfl
    refine sat_ite (fun hc => ?_) (fun hc => ?_)
    · refine sat_ldA (okI_of (sh6 (hl _))) fun v5 e5 => ?_
      refine sat_stJ (okI_of (sh6 (hl _))) fun s6 e6 => ?_
      exact sat_some ⟨by dsimp only; omega, hl, trivial⟩
    · have hc := nle hc
      have k1 : (a1 + (1 : Int32)).toInt = a1.toInt + (1 : Int32).toInt := ti_add (by omega) (by omega)
      have n1 := tn (x := a1) (by omega)
      have n2 := tn (x := a1 + 1) (by omega)
      refine sat_cal (s_X6_fitsBehindL FF hF a1.toNatClampNeg x3 (a1 + 1) t_limit t_stuck lf ne nr (by omega) (by omega) (by omega) (by omega) hl) fun u7 hu7 => ?_
      refine sat_ite (fun _ => ?_) (fun _ => ?_)
      · refine sat_bnd fun x3_8 e8 => ?_
        have k2 : (x3 + (1 : Int32)).toInt = x3.toInt + (1 : Int32).toInt := ti_add (by omega) (by omega)
        have te8 := congrArg Int32.toInt e8
        exact ih x3_8 _ _ _ _ (by omega) hu7.2.1 (by omega)
      · exact sat_some ⟨by dsimp only; omega, hu7.2.1, trivial⟩
theorem j_X6_fitsG_46 (FF : FitsT) {d : Int} (hF : FitsS FF d) (a1 t_limit : Int32) (h1 : 0 ≤ a1.toInt ∧ a1.toInt ≤ 14) (hd : d ≤ a1.toInt + 1) (t_stuck : Nat → Int64) (lf ne : Nat → Int32) (nr : Nat → Nat → Int32) (hl : ∀ i, 0 ≤ (lf i).toInt ∧ (lf i).toInt ≤ 16383) : Sat (J_X6_fitsG_46 FF a1 t_limit t_stuck lf ne nr) FitsP := by
  unfold J_X6_fitsG_46
  have l0 : (0 : Int32).toInt = 0 := rfl
  have l1 : (1 : Int32).toInt = 1 := rfl
  have l15 : (15 : Int32).toInt = 15 := rfl
  refine sat_cal (s_J6_bitCount_0f7a4 _) fun u2 hu2 => ?_
  refine sat_ite (fun _ => ?_) (fun _ => ?_)
  · have k1 : (a1 + (1 : Int32)).toInt = a1.toInt + (1 : Int32).toInt := ti_add (by omega) (by omega)
    refine sat_ite (fun hc => ?_) (fun hc => ?_)
    · exact sat_some ⟨by dsimp only; omega, hl, trivial⟩
    · have hc := nle hc
      refine sat_cal (s_X6_isStuck _ _ (hl _)) fun u3 hu3 => ?_
      refine sat_ite (fun _ => ?_) (fun _ => ?_)
      · refine sat_bnd fun x3_4 e4 => ?_
        have te4 := congrArg Int32.toInt e4
        have hNN := NN_i
        exact l_X6_fitsG_90 FF hF a1 t_limit (by omega) hd NN x3_4 t_stuck lf ne nr (by omega) hl (by omega)
      · exact sat_some ⟨by dsimp only; omega, hl, trivial⟩
  · exact sat_some ⟨by dsimp only; omega, hl, trivial⟩
theorem l_X6_fitsG_9 (FF : FitsT) {d : Int} (hF : FitsS FF d) (a1 t_limit : Int32) (h1 : 0 ≤ a1.toInt ∧ a1.toInt ≤ 14) (hd : d ≤ a1.toInt + 1) : ∀ (n : Nat) (x3 : Int32) (t_stuck : Nat → Int64) (lf ne : Nat → Int32) (nr : Nat → Nat → Int32), (0 ≤ x3.toInt ∧ x3.toInt ≤ 14) → (∀ i, 0 ≤ (lf i).toInt ∧ (lf i).toInt ≤ 16383) → 14 - x3.toInt < (n : Int) → Sat (L_X6_fitsG_9 FF a1 t_limit n x3 t_stuck lf ne nr) FitsP := by
  intro n
  induction n with
  | zero => intro x3 t_stuck lf ne nr hx hl hM; exfalso; omega
  | succ n ih =>
    intro x3 t_stuck lf ne nr hx hl hM
    rw [L_X6_fitsG_9]
    have l0 : (0 : Int32).toInt = 0 := rfl
    have l1 : (1 : Int32).toInt = 1 := rfl
    have l14 : (14 : Int32).toInt = 14 := rfl
    have lm : (-1 : Int32).toInt = -1 := rfl
    refine sat_ite (fun hc => ?_) (fun hc => ?_)
    · exact j_X6_fitsG_46 FF hF a1 t_limit h1 hd t_stuck lf ne nr hl
    · have hc := nle hc
      refine sat_cal (s_X1_harmless t_limit _ _ (hl _)) fun u9 hu9 => ?_
      refine sat_bnd fun x4 e4 => ?_
      have te4 := congrArg Int32.toInt e4
      refine sat_ite (fun hm => ?_) (fun hm => ?_)
      · exact j_X6_fitsG_46 FF hF a1 t_limit h1 hd t_stuck lf ne nr hl
      · have hm := neq hm
        have h9 := hu9.1
        refine sat_cal (s_X1_letGo x4 _ _ _ (by omega) (hl _)) fun u11 hu11 => ?_
        refine sat_bnd fun x3_12 e12 => ?_
        have k2 : (x3 + (1 : Int32)).toInt = x3.toInt + (1 : Int32).toInt := ti_add (by omega) (by omega)
        have te12 := congrArg Int32.toInt e12
        exact ih x3_12 _ _ _ _ (by omega) (lf_upd hl hu11.1) (by omega)
theorem s_X6_fits : ∀ (D : Nat), FitsS (f_X6_fits D) (15 - (D : Int)) := by
  intro D
  induction D with
  | zero => intro a1 t_limit t_stuck lf ne nr h1 hd; exfalso; omega
  | succ D ih =>
    intro a1 t_limit t_stuck lf ne nr h1 hd hl
    rw [f_X6_fits]
    unfold f_X6_fitsG
    have l0 : (0 : Int32).toInt = 0 := rfl
    refine sat_ckI (okI_of (by omega)) ?_
    refine sat_bnd fun x3_1 e1 => ?_
    have te1 := congrArg Int32.toInt e1
    have hNN := NN_i
    exact l_X6_fitsG_9 (f_X6_fits D) ih a1 t_limit h1 (by omega) NN x3_1 t_stuck lf ne nr (by omega) hl (by omega)
theorem s_X6_fitsBehindR (FF : FitsT) (a2 a3 t_limit t_rest_left t_rest_newEnds : Int32) (t_rest_near : Nat → Int32) (t_stuck : Nat → Int64) (lf ne : Nat → Int32) (nr : Nat → Nat → Int32) (h2 : 0 ≤ a2.toInt ∧ a2.toInt ≤ 13) (h3 : 0 ≤ a3.toInt ∧ a3.toInt ≤ 14) (hr : 0 ≤ t_rest_left.toInt ∧ t_rest_left.toInt ≤ 16383) (hl : ∀ i, 0 ≤ (lf i).toInt ∧ (lf i).toInt ≤ 16383) (hF : FF = f_X6_fits 16) : Sat (f_X6_fitsBehindR FF a2 a3 t_limit t_rest_left t_rest_newEnds t_rest_near t_stuck lf ne nr) FitsP := by
  subst hF
  exact s_X6_fitsBehindR0 (f_X6_fits 16) (s_X6_fits 16) a2 a3 t_limit t_rest_left t_rest_newEnds t_rest_near t_stuck lf ne nr h2 h3 (by omega) hr hl
theorem l_J7_fill_d0a16_6 (N_u : Nat) (a1 : Int64) (hN : N_u ≤ 1000) : ∀ (n : Nat) (x3 x4 : Int32) (u : Nat → Int64), (0 ≤ x3.toInt ∧ x3.toInt ≤ N_u) → x4.toInt = N_u → (N_u : Int) - x3.toInt < (n : Int) → Sat (L_J7_fill_d0a16_6 N_u a1 n x3 x4 u) (fun _ => True) := by
  intro n
  induction n with
  | zero => intro x3 x4 u h1 h2 hM; exfalso; omega
  | succ n ih =>
    intro x3 x4 u h1 h2 hM
    rw [L_J7_fill_d0a16_6]
    have l1 : (1 : Int32).toInt = 1 := rfl
    refine sat_ite (fun hc => ?_) (fun hc => ?_)
    · exact sat_some trivial
    · have hc := nle hc
      refine sat_stJ (okI_of (by omega)) fun u3 e3 => ?_
      refine sat_bnd fun x3_4 e4 => ?_
      have k2 : (x3 + (1 : Int32)).toInt = x3.toInt + (1 : Int32).toInt := ti_add (by omega) (by omega)
      have te4 := congrArg Int32.toInt e4
      exact ih x3_4 x4 u3 (by omega) h2 (by omega)
theorem s_J7_fill_256 (a1 : Int64) (u : Nat → Int64) : Sat (f_J7_fill_d0a16 256 a1 u) (fun _ => True) := by
  unfold f_J7_fill_d0a16
  have l0 : (0 : Int32).toInt = 0 := rfl
  have l2 : (Int32.ofNat 256).toInt = 256 := rfl
  refine sat_bnd fun x3_1 e1 => ?_
  have te1 := congrArg Int32.toInt e1
  refine sat_bnd fun x4_2 e2 => ?_
  have te2 := congrArg Int32.toInt e2
  have hNN := NN_i
  exact l_J7_fill_d0a16_6 256 a1 (by decide) NN x3_1 x4_2 u (by omega) (by omega) (by omega)
theorem s_X6_netFits (a2 u_size : Int32) (u_near : Nat → Int32) (t_limit : Int32) (t_stuck : Nat → Int64) (lf ne : Nat → Int32) (nr : Nat → Nat → Int32) (h_u_size : 0 ≤ u_size.toInt ∧ u_size.toInt ≤ 14) (h_lf : ∀ i, 0 ≤ (lf i).toInt ∧ (lf i).toInt ≤ 16383) : Sat (f_X6_netFits a2 u_size u_near t_limit t_stuck lf ne nr) (fun r => (0 ≤ (r.1).toInt ∧ (r.1).toInt ≤ 1) ∧ (∀ i, 0 ≤ ((r.2.2.2.1) i).toInt ∧ ((r.2.2.2.1) i).toInt ≤ 16383) ∧ True) := by
  unfold f_X6_netFits
  have l0 : (0 : Int32).toInt = 0 := rfl
  refine sat_bnd fun t_limit_1 e1 => ?_
  refine sat_cal (s_J7_fill_256 _ _) fun u2 _ => ?_
  refine sat_ckI (okI_of (by omega)) ?_
  refine sat_cal (s_X1_start _ _ _ u_size u_near (h_lf _) h_u_size) fun u3 hu3 => ?_
  refine sat_cal (s_X6_fits 16 (0 : Int32) t_limit_1 u2 _ _ _ (by omega) (by omega) (lf_upd h_lf hu3.1)) fun u4 hu4 => ?_
  refine sat_chk (b01 hu4.1) ?_
  exact sat_some ⟨hu4.1, hu4.2.1, trivial⟩
