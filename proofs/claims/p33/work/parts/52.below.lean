/-! below: both sides take the loneliest away. -/
def bA (B : Nat → Nat) (left j : Nat) : Nat := if left.testBit j = true then B j &&& left else 0
theorem and_t {a b i : Nat} : (a &&& b).testBit i = true ↔ (a.testBit i = true ∧ b.testBit i = true) := by
  rw [Nat.testBit_and, Bool.and_eq_true]
theorem tk_bA {n : Nat} {B : Nat → Nat} {near0 : Nat → Int32} (N : NetN n B near0) {left v : Nat} (hl : left < 16384) (hv : left.testBit v = true) (j : Nat) : tkA (bA B left) v j = bA B (nd left (2 ^ v)) j := by
  have ev : bA B left v = B v &&& left := if_pos hv
  have hp := p2n N.1
  have hj := N.2.2.1 j
  have hle : B j &&& left ≤ B j := Nat.and_le_left
  unfold tkA
  rw [ev]
  by_cases ej : j = v
  · rw [if_pos ej]
    subst ej
    exact (if_neg (fun z => ((nd2_t (by omega)).mp z).2 rfl)).symm
  · rw [if_neg ej]
    by_cases lj : left.testBit j = true
    · have e1 : bA B left j = B j &&& left := if_pos lj
      have e2 : bA B (nd left (2 ^ v)) j = B j &&& nd left (2 ^ v) := if_pos ((nd2_t (by omega)).mpr ⟨lj, fun z => ej z.symm⟩)
      rw [e1, e2]
      by_cases c : (B v &&& left).testBit j = true
      · rw [if_pos c]
        apply Nat.eq_of_testBit_eq
        intro i
        rw [Bool.eq_iff_iff, nd2_t (by omega), and_t, and_t, nd2_t (by omega)]
        exact ⟨fun ⟨⟨a, b⟩, d⟩ => ⟨a, b, d⟩, fun ⟨a, b, d⟩ => ⟨⟨a, b⟩, d⟩⟩
      · rw [if_neg c]
        apply Nat.eq_of_testBit_eq
        intro i
        rw [Bool.eq_iff_iff, and_t, and_t, nd2_t (by omega)]
        constructor
        · rintro ⟨a, b⟩
          refine ⟨a, b, fun z => ?_⟩
          subst z
          exact c (and_t.mpr ⟨N.2.2.2.2.2 _ _ a, lj⟩)
        · rintro ⟨a, b, _⟩
          exact ⟨a, b⟩
    · have e1 : bA B left j = 0 := if_neg lj
      have e2 : bA B (nd left (2 ^ v)) j = 0 := if_neg (fun z => lj ((nd2_t (by omega)).mp z).1)
      rw [e1, e2, if_neg (fun z => lj (and_t.mp z).2)]
theorem Lon_congr {left : Nat} {A A' : Nat → Nat} (e : ∀ j, left.testBit j = true → A j = A' j) {k : Nat} (h : Lon left A k) : Lon left A' k := by
  refine ⟨h.1, fun j hj => ?_⟩
  rw [← e j hj, ← e k h.1]
  exact h.2 j hj
theorem l_b16 {n : Nat} {B : Nat → Nat} {near0 : Nat → Int32} (N : NetN n B near0) {left : Nat} (hl : left < 2 ^ n) (h0 : left ≠ 0) (most : Int32) (kk : Int32 → Int32 → Option Int32) : ∀ (f j : Nat) (x3 : Int32), j ≤ n → n - j < f → ((x3 = -1 ∧ ∀ i, i < j → left.testBit i = false) ∨ (∃ b, x3 = nI b ∧ LonJ left (fun i => B i &&& left) j b)) → ∃ b, Lon left (fun i => B i &&& left) b ∧ L_X9_below_16 (nI n) near0 kk f (nI left) most x3 (nI j) = kk (nI (nd left (2 ^ b))) (if nI (pcN (B b &&& left)) ≤ most then most else nI (pcN (B b &&& left))) := by
  have hn := N.1
  have hp := p2n hn
  have hB : ∀ i, B i < 16384 := fun i => Nat.lt_of_lt_of_le (N.2.2.1 i) hp
  have hBl : ∀ i, B i &&& left < 16384 := fun i => Nat.lt_of_le_of_lt Nat.and_le_left (hB i)
  have lt : ∀ i, left.testBit i = true → i < n := fun i hi => by
    rcases Nat.lt_or_ge i n with q | q
    · exact q
    · rw [Nat.testBit_lt_two_pow (Nat.lt_of_lt_of_le hl (Nat.pow_le_pow_right (by decide) q))] at hi; cases hi
  intro f
  induction f with
  | zero => intro j x3 h1 h2; omega
  | succ f ih =>
    intro j x3 hj hf hI
    rw [L_X9_below_16]
    rcases Nat.lt_or_ge j n with h | h
    · rw [if_neg (nI_ge h (by omega))]
      by_cases b : left.testBit j = true
      · rw [if_pos ((nx_has1 (by omega) (by omega)).mpr b)]
        rcases hI with ⟨rfl, z⟩ | ⟨c, rfl, z⟩
        · rw [if_pos (by decide), bnd_s, bnd_s, nI_1]
          exact ih (j + 1) (nI j) (by omega) (by omega) (Or.inr ⟨j, rfl, LonJ_first z b⟩)
        · have hc : c < 14 := by have := z.1; omega
          rw [if_neg (nI_pos (by omega)), ld_ok _ (in14 (by omega)), cl14 (by omega), N.2.1 j, nx_and, cal_e (bits_n (hBl j)), ld_ok _ (in14 hc), cl14 hc, N.2.1 c, nx_and, cal_e (bits_n (hBl c))]
          have q1 := pcN_le (B j &&& left)
          have q2 := pcN_le (B c &&& left)
          rcases Nat.lt_or_ge (pcN (B j &&& left)) (pcN (B c &&& left)) with w | w
          · rw [if_neg (nI_ge w (by omega)), bnd_s, bnd_s, nI_1]
            exact ih (j + 1) (nI j) (by omega) (by omega) (Or.inr ⟨j, rfl, LonJ_new z b w⟩)
          · rw [if_pos (nI_le w (by omega)), bnd_s, nI_1]
            exact ih (j + 1) (nI c) (by omega) (by omega) (Or.inr ⟨c, rfl, LonJ_skip z (fun _ => w)⟩)
      · rw [if_neg (fun z => b ((nx_has1 (by omega) (by omega)).mp z)), bnd_s, nI_1]
        refine ih (j + 1) x3 (by omega) (by omega) ?_
        rcases hI with ⟨z1, z⟩ | ⟨c, z1, z⟩
        · refine Or.inl ⟨z1, fun i hi => ?_⟩
          by_cases e : i = j
          · subst e; exact bf b
          · exact z i (by omega)
        · exact Or.inr ⟨c, z1, LonJ_skip z (fun w => absurd w b)⟩
    · have e : j = n := by omega
      subst e
      rw [if_pos (nI_le (Nat.le_refl _) (by omega))]
      rcases hI with ⟨_, z⟩ | ⟨c, rfl, z⟩
      · exfalso
        obtain ⟨i, hi⟩ := ex_bit h0
        rw [z i (lt i hi)] at hi; cases hi
      · have hc : c < 14 := by have := z.1; omega
        refine ⟨c, LonJ_all z lt, ?_⟩
        rw [ld_ok _ (in14 hc), cl14 hc, N.2.1 c, nx_and, cal_e (bits_n (hBl c)), bnd_s]
        have eJ : ∀ s0, J_X9_below_102 (nI j) near0 kk (nI left) (nI c) s0 = kk (nI (nd left (2 ^ c))) s0 := by
          intro s0
          unfold J_X9_below_102
          rw [bnd_s, bnd_s, nx_bit1 c (by omega), nx_nd]
        by_cases w : nI (pcN (B c &&& left)) ≤ most
        · rw [if_pos w, if_pos w, eJ]
        · rw [if_neg w, if_neg w, eJ]
theorem pc_zero {left : Nat} (hl : left < 16384) (h : pcN left = 0) : left = 0 := by
  rcases Nat.eq_zero_or_pos left with z | z
  · exact z
  · exfalso
    obtain ⟨i, hi⟩ := ex_bit (t := left) (by omega)
    have := pcN_del (m := left) (j := i) (by omega) (tb_lt hl hi) hi
    omega
theorem lb_both {n : Nat} {B : Nat → Nat} {near0 : Nat → Int32} (N : NetN n B near0) : ∀ (m left i : Nat) (most : Int32) (fx fy : Nat) (ne : Int32) (near : Nat → Int32), pcN left = m → left < 2 ^ n → i + m = n → -1 ≤ most.toInt ∧ most.toInt ≤ 14 → m < fx → m < fy → RA near (bA B left) → ∃ w a b c, L_X8_lowerBound_15 (nI n) near0 fx most (nI i) (nI left) ne near = some (w, a, b, c) ∧ L_X9_below_7 (nI n) near0 fy (nI left) most = some w ∧ most.toInt ≤ w.toInt ∧ w.toInt ≤ 14 ∧ ∀ L : Int, FitG n (arN near0 (nI n)) L 0 → most.toInt ≤ L → w.toInt ≤ L := by
  have hn := N.1
  have hp := p2n hn
  intro m
  induction m with
  | zero =>
    intro left i most fx fy ne near hm hl hi hr hx hy R
    have e0 := pc_zero (by omega) hm
    subst e0
    obtain ⟨fx, rfl⟩ := Nat.exists_eq_succ_of_ne_zero (show fx ≠ 0 by omega)
    obtain ⟨fy, rfl⟩ := Nat.exists_eq_succ_of_ne_zero (show fy ≠ 0 by omega)
    refine ⟨most, nI 0, ne, near, ?_, ?_, Int.le_refl _, hr.2, fun L _ h => h⟩
    · rw [L_X8_lowerBound_15, if_pos (nI_le (by omega) (by omega))]
    · rw [L_X9_below_7, if_pos (show nI 0 = 0 from rfl)]
  | succ m ih =>
    intro left i most fx fy ne near hm hl hi hr hx hy R
    obtain ⟨fx, rfl⟩ := Nat.exists_eq_succ_of_ne_zero (show fx ≠ 0 by omega)
    obtain ⟨fy, rfl⟩ := Nat.exists_eq_succ_of_ne_zero (show fy ≠ 0 by omega)
    have h0 : left ≠ 0 := fun z => by rw [z, show pcN 0 = 0 from pcU_0 14] at hm; omega
    have hBl : ∀ i, B i &&& left < 16384 := fun i => Nat.lt_of_le_of_lt Nat.and_le_left (Nat.lt_of_lt_of_le (N.2.2.1 i) hp)
    have hcong : ∀ j, left.testBit j = true → bA B left j = B j &&& left := fun j hj => if_pos hj
    have h14 : ∀ j, left.testBit j = true → pcN (bA B left j) < 14 := by
      intro j hj
      rw [hcong j hj]
      have hb : (B j &&& left).testBit j = false := bf fun z => by
        have := (and_t.mp z).1
        rw [N.2.2.2.2.1 j] at this; cases this
      have := pcN_add (m := B j &&& left) (tb_lt (by omega) hj) hb
      have := pcN_le (B j &&& left ||| 2 ^ j)
      omega
    obtain ⟨k, hk, e1, L1⟩ := lon_n (by omega) R h14
    have L2 := Lon_congr hcong (L1 h0)
    obtain ⟨b, L3, e2⟩ := l_b16 N hl h0 most (fun y0 y1 => L_X9_below_7 (nI n) near0 fy y0 y1) NN 0 (-1) (by omega) (by show n - 0 < 32768; omega) (Or.inl ⟨rfl, fun i hi => by omega⟩)
    have ekb := Lon_uniq L2 L3
    subst ekb
    have hkl := L3.1
    obtain ⟨near', e3, R3⟩ := take_n (left := left) hk R
    have hc := pcN_le (B k &&& left)
    have hdel := pcN_del (m := left) (j := k) (by omega) hk hkl
    have hlt : nd left (2 ^ k) < 2 ^ n := Nat.lt_of_le_of_lt (nd_le _ _) hl
    have hcI : (nI (pcN (B k &&& left))).toInt = (pcN (B k &&& left) : Int) := nI_toInt (by omega)
    have emax : (if most < nI (pcN (B k &&& left)) then nI (pcN (B k &&& left)) else most) = (if nI (pcN (B k &&& left)) ≤ most then most else nI (pcN (B k &&& left))) := by
      by_cases w : nI (pcN (B k &&& left)) ≤ most
      · rw [if_pos w, if_neg (fun z => by have := ple w; have := plt z; omega)]
      · have w2 := nle w
        rw [if_neg w, if_pos (Int32.lt_iff_toInt_lt.mpr w2)]
    obtain ⟨w, a1, a2, a3, g1, g2, g3, g4, g5⟩ := ih (nd left (2 ^ k)) (i + 1) (if nI (pcN (B k &&& left)) ≤ most then most else nI (pcN (B k &&& left))) fx fy ne near' (by omega) hlt (by omega) (by
      by_cases w : nI (pcN (B k &&& left)) ≤ most
      · rw [if_pos w]; exact hr
      · rw [if_neg w, hcI]; omega) (by omega) (by omega) (RA_congr R3 fun i _ => tk_bA N (by omega) hkl i)
    refine ⟨w, a1, a2, a3, ?_, ?_, ?_, g4, fun L hF hL => ?_⟩
    · rw [L_X8_lowerBound_15, if_neg (nI_ge (by omega) (by omega)), cal_e e1, bnd_s, ld_ok _ (in14 hk), cl14 hk, (R k hk).1, hcong k hkl, cal_e (bitCount_n (hBl k)), bnd_s, cal_e e3, bnd_s, nI_1, emax]
      exact g1
    · rw [L_X9_below_7, if_neg (nI_ne0 (by omega) (by omega)), bnd_s, bnd_s]
      exact e2.trans g2
    · by_cases w2 : nI (pcN (B k &&& left)) ≤ most
      · rw [if_pos w2] at g3; exact g3
      · rw [if_neg w2] at g3
        have := nle w2
        omega
    · refine g5 L hF ?_
      by_cases w2 : nI (pcN (B k &&& left)) ≤ most
      · rw [if_pos w2]; exact hL
      · rw [if_neg w2, hcI]
        have lt : ∀ i, left.testBit i = true → i < n := fun i hi => by
          rcases Nat.lt_or_ge i n with q | q
          · exact q
          · rw [Nat.testBit_lt_two_pow (Nat.lt_of_lt_of_le hl (Nat.pow_le_pow_right (by decide) q))] at hi; cases hi
        obtain ⟨u, hu1, hu2⟩ := lowb (arS_n N) (S := left) ⟨k, hkl⟩ _ 0 (Nat.two_pow_pos n) hF (fun i hi => ⟨lt i hi, Nat.zero_testBit i⟩)
        have hmin : pcN (B k &&& left) ≤ pcN (B u &&& left) := (L3.2 u hu1).1
        omega
theorem lm0_pc {n : Nat} (hn : n ≤ 14) : pcN (lm n 0) = n := by
  rw [lm_pc hn]
  unfold lc
  rw [pcU_0]; rfl
theorem lm_lt2 {n : Nat} (G : Nat) : lm n G < 2 ^ n := by
  have h1 := nd_le (2 ^ n - 1) G
  have h3 : 0 < 2 ^ n := Nat.two_pow_pos n
  unfold lm; omega
theorem lm0 {n : Nat} (hn : n ≤ 14) : lm n 0 = 2 ^ n - 1 := by
  apply Nat.eq_of_testBit_eq
  intro i
  rw [Bool.eq_iff_iff, lm_t hn, tb_all, decide_eq_true_iff]
  exact ⟨fun z => z.1, fun z => ⟨z, Nat.zero_testBit i⟩⟩
theorem gA_0 {n : Nat} {B : Nat → Nat} {near0 : Nat → Int32} (N : NetN n B near0) (j : Nat) : gA n (arN near0 (nI n)) 0 j = B j := by
  have hn := N.1
  rcases Nat.lt_or_ge j n with z | z
  · rw [gA_in hn z (Nat.zero_testBit j), ar_zero (arN_ar N (Nat.two_pow_pos n) z).2.2 (N.2.2.2.2.1 j)]
  · rw [gA_out hn (fun q => by omega), N.2.2.2.1 j z]
theorem bA_0 {n : Nat} {B : Nat → Nat} {near0 : Nat → Int32} (N : NetN n B near0) (j : Nat) : bA B (lm n 0) j = B j := by
  have hn := N.1
  rcases Nat.lt_or_ge j n with z | z
  · unfold bA
    rw [if_pos ((lm_t hn).mpr ⟨z, Nat.zero_testBit j⟩)]
    apply Nat.eq_of_testBit_eq
    intro i
    rw [Bool.eq_iff_iff, and_t, lm_t hn]
    refine ⟨fun q => q.1, fun q => ⟨q, ?_, Nat.zero_testBit i⟩⟩
    rcases Nat.lt_or_ge i n with w | w
    · exact w
    · rw [Nat.testBit_lt_two_pow (Nat.lt_of_lt_of_le (N.2.2.1 j) (Nat.pow_le_pow_right (by decide) w))] at q; cases q
  · unfold bA
    rw [if_neg (fun q => by have := ((lm_t hn).mp q).1; omega), N.2.2.2.1 j z]
theorem below_rel {n : Nat} {B : Nat → Nat} {near0 : Nat → Int32} (N : NetN n B near0) (left ne : Int32) (near : Nat → Int32) : ∃ w a b c, f_X8_lowerBound (nI n) near0 left ne near = some (w, a, b, c) ∧ f_X9_below (nI n) near0 = some w ∧ -1 ≤ w.toInt ∧ w.toInt ≤ 14 ∧ ∀ L : Int, FitG n (arN near0 (nI n)) L 0 → -1 ≤ L → w.toInt ≤ L := by
  have hn := N.1
  obtain ⟨l1, n1, h1, S⟩ := start_g N left ne near
  obtain ⟨_, el, R⟩ := S
  obtain ⟨w, a, b, c, g1, g2, g3, g4, g5⟩ := lb_both N n (lm n 0) 0 (-1) NN NN 0 n1 (lm0_pc hn) (lm_lt2 0) (by omega) (by decide) (by show n < 32768; omega) (by show n < 32768; omega) (RA_congr R fun j _ => by rw [gA_0 N, bA_0 N])
  refine ⟨w, a, b, c, ?_, ?_, g3, g4, g5⟩
  · unfold f_X8_lowerBound
    rw [cal_e h1, bnd_s, bnd_s, el]
    exact g1
  · unfold f_X9_below f_X9_all
    rw [all_v hn, cal_s, bnd_s, bnd_s, ← lm0 hn]
    exact g2
