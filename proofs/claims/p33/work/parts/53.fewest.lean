/-! Rows of knots, and fewest. -/
def RowN (n : Nat) (row : Nat → Int32) (r : Nat) : Prop := ∀ j, j < r → ∃ k, k < n ∧ row j = nI k
theorem rmN_lt2 {n : Nat} (hn : n ≤ 14) {row : Nat → Int32} {r : Nat} (h : RowN n row r) : ∀ j, j ≤ r → rmN row j < 2 ^ n := by
  intro j
  induction j with
  | zero => intro _; exact Nat.two_pow_pos n
  | succ j ih =>
    intro hj
    obtain ⟨k, k1, k2⟩ := h j (by omega)
    show rmN row j ||| 2 ^ (row j).toNatClampNeg < 2 ^ n
    rw [k2, nI_clamp (by omega)]
    exact lt2n (ih (by omega)) k1
theorem rmN_congr {f g : Nat → Int32} : ∀ i, (∀ j, j < i → f j = g j) → rmN f i = rmN g i := by
  intro i
  induction i with
  | zero => intro _; rfl
  | succ i ih =>
    intro h
    show rmN f i ||| 2 ^ (f i).toNatClampNeg = rmN g i ||| 2 ^ (g i).toNatClampNeg
    rw [ih (fun j hj => h j (by omega)), h i (by omega)]
/-- the widest of the first j of a row -/
def mxW (ar : Nat → Nat → Nat) (row : Nat → Int32) : Nat → Int32
  | 0 => -1
  | j + 1 => if mxW ar row j < nI (pcN (ar (rmN row j) (row j).toNatClampNeg)) then nI (pcN (ar (rmN row j) (row j).toNatClampNeg)) else mxW ar row j
theorem mxW_congr {ar : Nat → Nat → Nat} {f g : Nat → Int32} : ∀ i, (∀ j, j < i → f j = g j) → mxW ar f i = mxW ar g i := by
  intro i
  induction i with
  | zero => intro _; rfl
  | succ i ih =>
    intro h
    unfold mxW
    rw [ih (fun j hj => h j (by omega)), h i (by omega), rmN_congr i (fun j hj => h j (by omega))]
theorem lt_iff_not_le (a b : Int32) : (a < b) ↔ ¬ b ≤ a := by
  rw [Int32.lt_iff_toInt_lt, Int32.le_iff_toInt_le]; omega
theorem l_rw {n : Nat} {B : Nat → Nat} {near0 : Nat → Int32} (N : NetN n B near0) {row : Nat → Int32} {r : Nat} (hr : r ≤ 14) (hR : RowN n row r) : ∀ (f j : Nat), j ≤ r → r - j < f → L_X9_rowWidth_6 (nI n) (nI r) near0 row f (nI (rmN row j)) (mxW (arN near0 (nI n)) row j) (nI j) = some (mxW (arN near0 (nI n)) row r) := by
  have hn := N.1
  intro f
  induction f with
  | zero => intro j h1 h2; omega
  | succ f ih =>
    intro j hj hf
    rw [L_X9_rowWidth_6]
    rcases Nat.lt_or_ge j r with h | h
    · obtain ⟨k, k1, k2⟩ := hR j h
      have hG := rmN_lt2 hn hR j hj
      obtain ⟨a1, a2, _⟩ := arN_ar N hG k1
      have hc := pcN_le (arN near0 (nI n) (rmN row j) k)
      rw [if_neg (nI_ge h (by omega)), ld_ok _ (in14 (by omega)), cl14 (by omega), k2, cal_e a2, cal_e (bits_n a1), bnd_s]
      have eJ : ∀ s0 kk, J_X9_rowWidth_43 (nI n) (nI r) near0 row kk (nI (rmN row j)) (nI j) s0 = kk (nI (rmN row (j + 1))) s0 (nI (j + 1)) := by
        intro s0 kk
        unfold J_X9_rowWidth_43
        rw [bnd_s, ld_ok _ (in14 (by omega)), cl14 (by omega), k2, bnd_s, bnd_s, nx_bit1 k (by omega), nx_or, nI_1]
        congr 2
        show _ = rmN row j ||| 2 ^ (row j).toNatClampNeg
        rw [k2, nI_clamp (by omega)]
      have em : mxW (arN near0 (nI n)) row (j + 1) = if nI (pcN (arN near0 (nI n) (rmN row j) k)) ≤ mxW (arN near0 (nI n)) row j then mxW (arN near0 (nI n)) row j else nI (pcN (arN near0 (nI n) (rmN row j) k)) := by
        show (if mxW _ row j < nI (pcN (arN near0 (nI n) (rmN row j) (row j).toNatClampNeg)) then _ else _) = _
        rw [k2, nI_clamp (by omega)]
        by_cases c : nI (pcN (arN near0 (nI n) (rmN row j) k)) ≤ mxW (arN near0 (nI n)) row j
        · rw [if_pos c, if_neg (fun z => (lt_iff_not_le _ _).mp z c)]
        · rw [if_neg c, if_pos ((lt_iff_not_le _ _).mpr c)]
      have := ih (j + 1) (by omega) (by omega)
      rw [em] at this
      by_cases c : nI (pcN (arN near0 (nI n) (rmN row j) k)) ≤ mxW (arN near0 (nI n)) row j
      · rw [if_pos c, eJ]
        rw [if_pos c] at this
        exact this
      · rw [if_neg c, eJ]
        rw [if_neg c] at this
        exact this
    · have e : j = r := by omega
      subst e
      rw [if_pos (nI_le (Nat.le_refl _) (by omega))]
theorem rowWidth_n {n : Nat} {B : Nat → Nat} {near0 : Nat → Int32} (N : NetN n B near0) {row : Nat → Int32} {r : Nat} (hr : r ≤ 14) (hR : RowN n row r) : f_X9_rowWidth (nI n) (nI r) near0 row = some (mxW (arN near0 (nI n)) row r) := by
  unfold f_X9_rowWidth
  rw [bnd_s, bnd_s, bnd_s]
  exact l_rw N hr hR NN 0 (by omega) (by show r - 0 < 32768; omega)
/-- each knot of a row is the loneliest then -/
def FO (n : Nat) (ar : Nat → Nat → Nat) (row : Nat → Int32) (i : Nat) : Prop := ∀ j, j < i → ∃ k, k < n ∧ row j = nI k ∧ Lon (lm n (rmN row j)) (ar (rmN row j)) k
theorem FO_row {n : Nat} {ar : Nat → Nat → Nat} {row : Nat → Int32} {i : Nat} (h : FO n ar row i) : RowN n row i := fun j hj => by
  obtain ⟨k, k1, k2, _⟩ := h j hj
  exact ⟨k, k1, k2⟩
theorem FO_uniq {n : Nat} {ar : Nat → Nat → Nat} {f g : Nat → Int32} : ∀ i, FO n ar f i → FO n ar g i → ∀ j, j < i → f j = g j := by
  intro i hf hg j
  induction j using Nat.strongRecOn with
  | _ j ih =>
    intro hj
    obtain ⟨k, k1, k2, k3⟩ := hf j hj
    obtain ⟨q, q1, q2, q3⟩ := hg j hj
    have e : rmN f j = rmN g j := rmN_congr j (fun l hl => ih l hl (by omega))
    rw [← e] at q3
    rw [k2, q2, Lon_uniq k3 q3]
theorem FO_app {n : Nat} (hn : n ≤ 14) {ar : Nat → Nat → Nat} {row : Nat → Int32} {i k : Nat} (h : FO n ar row i) (hk : k < n) (hL : Lon (lm n (rmN row i)) (ar (rmN row i)) k) : FO n ar (upd row i (nI k)) (i + 1) := by
  intro j hj
  have e : rmN (upd row i (nI k)) j = rmN row j := rmN_upd row i (nI k) j (by omega)
  rw [e]
  by_cases z : j = i
  · subst z; exact ⟨k, hk, pk_us, hL⟩
  · obtain ⟨q, q1, q2, q3⟩ := h j (by omega)
    exact ⟨q, q1, by rw [pk_un z]; exact q2, q3⟩
theorem rmN_app2 (row : Nat → Int32) (i : Nat) {k : Nat} (hk : k < 14) : rmN (upd row i (nI k)) (i + 1) = rmN row i ||| 2 ^ k := by
  rw [rmN_app, nI_clamp (by omega)]
theorem lc0 {n G : Nat} (hn : n ≤ 14) (hG : G < 2 ^ n) (h : lc n G = 0) : G = 2 ^ n - 1 := by
  apply Nat.eq_of_testBit_eq
  intro i
  rw [tb_all]
  rcases Nat.lt_or_ge i n with z | z
  · rw [decide_eq_true z]
    by_cases c : G.testBit i = true
    · exact c
    · have := lc_step z (bf c); omega
  · rw [decide_eq_false (by omega), Nat.testBit_lt_two_pow (Nat.lt_of_lt_of_le hG (Nat.pow_le_pow_right (by decide) z))]
theorem app_n {i k G : Nat} (hi : i < 14) (hk : k < 14) (knots : Nat → Int32) : f_X2_append (nI k) (nI i) (nI G) knots = some (nI (i + 1), nI (G ||| 2 ^ k), upd knots i (nI k)) := by
  unfold f_X2_append
  rw [if_pos (show nI i < (14 : Int32) from nI_lt (b := 14) hi (by decide)), sI_ok _ (in14 hi), cl14 hi, bnd_s, bnd_s, nI_1, nx_bit1 k (by omega), nx_or]
theorem lm_ne {n G : Nat} (hn : n ≤ 14) (h : lc n G ≠ 0) : lm n G ≠ 0 := by
  obtain ⟨v, v1, v2⟩ := lc_pos hn h
  intro z
  have := (lm_t hn).mpr ⟨v1, v2⟩
  rw [z, Nat.zero_testBit] at this; cases this
theorem lon_g {n : Nat} {B : Nat → Nat} {ar : Nat → Nat → Nat} (A : ArS n B ar) (hn : n ≤ 14) {G : Nat} {left : Int32} {near : Nat → Int32} (S : GS n ar G left near) (h : lc n G ≠ 0) : ∃ k, k < n ∧ G.testBit k = false ∧ f_X1_loneliest left near = some (nI k) ∧ Lon (lm n G) (ar G) k ∧ near k = nI (ar G k) ∧ ar G k < 16384 := by
  obtain ⟨hG, rfl, R⟩ := S
  have hc : ∀ j, (lm n G).testBit j = true → gA n ar G j = ar G j := fun j hj => if_pos hj
  obtain ⟨k, k1, k2, k3⟩ := lon_n (lm_lt hn G) R (fun j hj => by
    rw [hc j hj]
    have q := (lm_t hn).mp hj
    have := ar_cnt A hn hG q.1 q.2
    have : lc n G ≤ n := Nat.sub_le _ _
    omega)
  have L := Lon_congr hc (k3 (lm_ne hn h))
  have q := (lm_t hn).mp L.1
  have r := R k k1
  rw [hc k L.1] at r
  exact ⟨k, q.1, q.2, k2, L, r.1, r.2⟩
theorem cl_fewest {n : Nat} {B : Nat → Nat} {near0 : Nat → Int32} (N : NetN n B near0) : ∀ (m i G e f : Nat) (knots : Nat → Int32) (x1 left : Int32) (near : Nat → Int32), i + m = n → m < f → rmN knots i = G → lc n G = m → FO n (arN near0 (nI n)) knots i → x1 = mxW (arN near0 (nI n)) knots i → GS n (arN near0 (nI n)) G left near → ∃ knots' a b c, L_X8_fewest_22 (nI n) near0 f x1 (nI i) (nI i) (nI G) knots left (nI e) near = some (mxW (arN near0 (nI n)) knots' n, nI n, nI (2 ^ n - 1), knots', a, b, c) ∧ FO n (arN near0 (nI n)) knots' n ∧ rmN knots' n = 2 ^ n - 1 := by
  have hn := N.1
  have A := arS_n N
  intro m
  induction m with
  | zero =>
    intro i G e f knots x1 left near hi hf hr hl hF hx S
    obtain ⟨f, rfl⟩ := Nat.exists_eq_succ_of_ne_zero (show f ≠ 0 by omega)
    have e1 : i = n := by omega
    subst e1
    have eG := lc0 hn S.1 hl
    refine ⟨knots, left, nI e, near, ?_, hF, by rw [hr, eG]⟩
    rw [L_X8_fewest_22, if_pos (nI_le (Nat.le_refl _) (by omega)), hx, ← eG]
  | succ m ih =>
    intro i G e f knots x1 left near hi hf hr hl hF hx S
    obtain ⟨f, rfl⟩ := Nat.exists_eq_succ_of_ne_zero (show f ≠ 0 by omega)
    obtain ⟨k, k1, k2, k3, k4, k5, k6⟩ := lon_g A hn S (by omega)
    obtain ⟨left', near', g1, g2⟩ := letGo_g (e := e) A hn S k1 k2
    rw [L_X8_fewest_22, if_neg (nI_ge (by omega) (by omega)), cal_e k3, bnd_s, ld_ok _ (in14 (by omega)), cl14 (by omega), k5, cal_e (bitCount_n k6), bnd_s, cal_e (app_n (by omega) (by omega) knots), cal_e g1, bnd_s, nI_1]
    have hlc := lc_step k1 k2
    refine ih (i + 1) (G ||| 2 ^ k) _ f (upd knots i (nI k)) _ left' near' (by omega) (by omega) (by rw [rmN_app2 knots i (by omega), hr]) (by omega) (FO_app hn hF k1 (by rw [hr]; exact k4)) ?_ g2
    show _ = (if mxW _ (upd knots i (nI k)) i < nI (pcN (arN near0 (nI n) (rmN (upd knots i (nI k)) i) ((upd knots i (nI k)) i).toNatClampNeg)) then nI (pcN (arN near0 (nI n) (rmN (upd knots i (nI k)) i) ((upd knots i (nI k)) i).toNatClampNeg)) else mxW _ (upd knots i (nI k)) i)
    rw [pk_us, nI_clamp (by omega), rmN_upd knots i (nI k) i (Nat.le_refl _), hr, mxW_congr (f := upd knots i (nI k)) (g := knots) i (fun j hj => pk_un (by omega)), hx]
theorem l_f22 {n : Nat} {B : Nat → Nat} {near0 : Nat → Int32} (N : NetN n B near0) {G r : Nat} (hG : G < 2 ^ n) (hr : r < 14) (h0 : lm n G ≠ 0) (row : Nat → Int32) (kk : Int32 → Int32 → (Nat → Int32) → Option (Int32 × Int32 × (Nat → Int32))) : ∀ (f j : Nat) (x2 : Int32), j ≤ n → n - j < f → ((x2 = -1 ∧ ∀ i, i < j → (lm n G).testBit i = false) ∨ (∃ b, x2 = nI b ∧ LonJ (lm n G) (arN near0 (nI n) G) j b)) → ∃ b, Lon (lm n G) (arN near0 (nI n) G) b ∧ L_X9_fewest_22 (nI n) near0 kk f (nI G) x2 (nI j) (nI r) row = kk (nI (G ||| 2 ^ b)) (nI (r + 1)) (upd row r (nI b)) := by
  have hn := N.1
  have hp := p2n hn
  have lt : ∀ i, (lm n G).testBit i = true → i < n := fun i hi => ((lm_t hn).mp hi).1
  intro f
  induction f with
  | zero => intro j x2 h1 h2; omega
  | succ f ih =>
    intro j x2 hj hf hI
    rw [L_X9_fewest_22]
    rcases Nat.lt_or_ge j n with h | h
    · rw [if_neg (nI_ge h (by omega))]
      by_cases b : G.testBit j = false
      · have bl := (lm_t hn).mpr ⟨h, b⟩
        rw [if_pos ((nx_has0 (by omega) (by omega)).mpr b)]
        rcases hI with ⟨rfl, z⟩ | ⟨c, rfl, z⟩
        · rw [if_pos (by decide), bnd_s, bnd_s, nI_1]
          exact ih (j + 1) (nI j) (by omega) (by omega) (Or.inr ⟨j, rfl, LonJ_first z bl⟩)
        · have hc : c < n := lt c z.2.1
          obtain ⟨a1, a2, _⟩ := arN_ar N hG h
          obtain ⟨c1, c2, _⟩ := arN_ar N hG hc
          have q1 := pcN_le (arN near0 (nI n) G j)
          have q2 := pcN_le (arN near0 (nI n) G c)
          rw [if_neg (nI_pos (by omega)), cal_e a2, cal_e (bits_n a1), cal_e c2, cal_e (bits_n c1)]
          rcases Nat.lt_or_ge (pcN (arN near0 (nI n) G j)) (pcN (arN near0 (nI n) G c)) with w | w
          · rw [if_neg (nI_ge w (by omega)), bnd_s, bnd_s, nI_1]
            exact ih (j + 1) (nI j) (by omega) (by omega) (Or.inr ⟨j, rfl, LonJ_new z bl w⟩)
          · rw [if_pos (nI_le w (by omega)), bnd_s, nI_1]
            exact ih (j + 1) (nI c) (by omega) (by omega) (Or.inr ⟨c, rfl, LonJ_skip z (fun _ => w)⟩)
      · have nb : ¬ (lm n G).testBit j = true := fun z => b ((lm_t hn).mp z).2
        rw [if_neg (fun z => b ((nx_has0 (by omega) (by omega)).mp z)), bnd_s, nI_1]
        refine ih (j + 1) x2 (by omega) (by omega) ?_
        rcases hI with ⟨z1, z⟩ | ⟨c, z1, z⟩
        · refine Or.inl ⟨z1, fun i hi => ?_⟩
          by_cases e : i = j
          · subst e; exact bf nb
          · exact z i (by omega)
        · exact Or.inr ⟨c, z1, LonJ_skip z (fun w => absurd w nb)⟩
    · have e : j = n := by omega
      subst e
      rw [if_pos (nI_le (Nat.le_refl _) (by omega))]
      rcases hI with ⟨_, z⟩ | ⟨c, rfl, z⟩
      · exfalso
        obtain ⟨i, hi⟩ := ex_bit h0
        rw [z i (lt i hi)] at hi; cases hi
      · have hc := lt c z.2.1
        refine ⟨c, LonJ_all z lt, ?_⟩
        rw [sI_ok _ (in14 hr), cl14 hr, bnd_s, bnd_s, nI_1, nx_bit1 c (by omega), nx_or]
theorem m_fewest {n : Nat} {B : Nat → Nat} {near0 : Nat → Int32} (N : NetN n B near0) : ∀ (m i G f : Nat) (row : Nat → Int32), i + m = n → m < f → rmN row i = G → lc n G = m → G < 2 ^ n → FO n (arN near0 (nI n)) row i → ∃ row', L_X9_fewest_7 (nI n) near0 f (nI G) (nI i) row = some (mxW (arN near0 (nI n)) row' n, nI n, row') ∧ FO n (arN near0 (nI n)) row' n ∧ rmN row' n = 2 ^ n - 1 := by
  have hn := N.1
  intro m
  induction m with
  | zero =>
    intro i G f row hi hf hr hl hG hF
    obtain ⟨f, rfl⟩ := Nat.exists_eq_succ_of_ne_zero (show f ≠ 0 by omega)
    have e1 : i = n := by omega
    subst e1
    have eG := lc0 hn hG hl
    refine ⟨row, ?_, hF, by rw [hr, eG]⟩
    rw [L_X9_fewest_7, if_pos (nI_le (Nat.le_refl _) (by omega)), cal_e (rowWidth_n N hn (FO_row hF))]
  | succ m ih =>
    intro i G f row hi hf hr hl hG hF
    obtain ⟨f, rfl⟩ := Nat.exists_eq_succ_of_ne_zero (show f ≠ 0 by omega)
    obtain ⟨b, b1, b2⟩ := l_f22 N hG (r := i) (by omega) (lm_ne hn (by omega)) row (fun y0 y1 y2 => L_X9_fewest_7 (nI n) near0 f y0 y1 y2) NN 0 (-1) (by omega) (by show n - 0 < 32768; omega) (Or.inl ⟨rfl, fun i hi => by omega⟩)
    obtain ⟨q1, q2⟩ := (lm_t hn).mp b1.1
    rw [L_X9_fewest_7, if_neg (nI_ge (by omega) (by omega)), bnd_s, bnd_s]
    have hlc := lc_step q1 q2
    obtain ⟨row', g1, g2⟩ := ih (i + 1) (G ||| 2 ^ b) f (upd row i (nI b)) (by omega) (by omega) (by rw [rmN_app2 row i (by omega), hr]) (by omega) (lt2n hG q1) (FO_app hn hF q1 (by rw [hr]; exact b1))
    exact ⟨row', b2.trans g1, g2⟩
theorem lc_0 (n : Nat) : lc n 0 = n := by unfold lc; rw [pcU_0]; rfl
theorem fewest_rel {n : Nat} {B : Nat → Nat} {near0 : Nat → Int32} (N : NetN n B near0) (os oh left ne rowed : Int32) (knots near row : Nat → Int32) : ∃ w knots' row' a b c, f_X8_fewest (nI n) near0 os oh knots left ne near = some (w, nI n, nI (2 ^ n - 1), knots', a, b, c) ∧ f_X9_fewest (nI n) rowed near0 row = some (w, nI n, row') ∧ (∀ j, j < n → knots' j = row' j) ∧ RowN n row' n ∧ rmN row' n = 2 ^ n - 1 := by
  have hn := N.1
  obtain ⟨l1, n1, h1, S⟩ := start_g N left ne near
  obtain ⟨knots', a, b, c, g1, g2, g3⟩ := cl_fewest N n 0 0 0 NN knots (-1) l1 n1 (by omega) (by show n < 32768; omega) rfl (lc_0 n) (fun j hj => by omega) rfl S
  obtain ⟨row', k1, k2, k3⟩ := m_fewest N n 0 0 NN row (by omega) (by show n < 32768; omega) rfl (lc_0 n) (Nat.two_pow_pos n) (fun j hj => by omega)
  have e := FO_uniq n g2 k2
  refine ⟨mxW (arN near0 (nI n)) knots' n, knots', row', a, b, c, ?_, ?_, e, FO_row k2, k3⟩
  · unfold f_X8_fewest
    rw [cal_e (show f_X2_empty os oh = some (0, 0) from rfl), cal_e h1, bnd_s, bnd_s]
    exact g1
  · unfold f_X9_fewest
    rw [bnd_s, bnd_s, mxW_congr n e]
    exact k1
