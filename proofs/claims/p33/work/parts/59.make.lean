/-! make, width. -/
def mkM (m : Nat → Int32) : Nat → Nat
  | 0 => 0
  | i + 1 => if mkM m i < pcN (m i).toNatClampNeg then pcN (m i).toNatClampNeg else mkM m i
theorem mkM_le (m : Nat → Int32) (i : Nat) : mkM m i ≤ 14 := by
  induction i with
  | zero => exact Nat.zero_le _
  | succ i ih =>
    unfold mkM
    have := pcN_le (m i).toNatClampNeg
    split <;> omega
theorem mostKnots_n {b : Nat} (hb : b ≤ 14) {masks : Nat → Int32} (hm : ∀ i, i < b → ∃ m, masks i = nI m ∧ m < 16384) : f_X0_mostKnots (nI b) masks = some (nI (mkM masks b)) := by
  have hl : ∀ (f j : Nat), j ≤ b → b - j < f → L_X0_mostKnots_4 (nI b) masks f (nI (mkM masks j)) (nI j) = some (nI (mkM masks b)) := by
    intro f
    induction f with
    | zero => intro j h1 h2; omega
    | succ f ih =>
      intro j hj hf
      rw [L_X0_mostKnots_4]
      rcases Nat.lt_or_ge j b with h | h
      · obtain ⟨m, m1, m2⟩ := hm j h
        have hk := mkM_le masks j
        have hp := pcN_le m
        rw [if_neg (nI_ge h (by omega)), ld_ok _ (in14 (by omega)), cl14 (by omega), m1, cal_e (bitCount_n m2), bnd_s, bnd_s, nI_1]
        have e : (if nI (mkM masks j) < nI (pcN m) then nI (pcN m) else nI (mkM masks j)) = nI (mkM masks (j + 1)) := by
          show _ = nI (if mkM masks j < pcN (masks j).toNatClampNeg then pcN (masks j).toNatClampNeg else mkM masks j)
          rw [m1, nI_clamp (by omega)]
          rcases Nat.lt_or_ge (mkM masks j) (pcN m) with c | c
          · rw [if_pos (nI_lt c (by omega)), if_pos c]
          · rw [if_neg (nI_nlt c (by omega)), if_neg (by omega)]
        rw [e]
        exact ih (j + 1) (by omega) (by omega)
      · rw [if_pos (nI_le h (by omega)), show j = b from by omega]
  unfold f_X0_mostKnots
  rw [bnd_s, bnd_s]
  exact hl NN 0 (by omega) (by show b - 0 < 32768; omega)
theorem sub1_ti {p : Nat} (hp : p ≤ 14) : (nI p - (1 : Int32)).toInt = (p : Int) - 1 := by
  have l1 : (1 : Int32).toInt = 1 := rfl
  have e : (nI p).toInt = (p : Int) := nI_toInt (by omega)
  rw [ti_sub (by omega) (by omega)]; omega
theorem width_n {b : Nat} (hb : b ≤ 14) {masks : Nat → Int32} (hm : ∀ i, i < b → ∃ m, masks i = nI m ∧ m < 16384) : f_X9_width (nI b) masks = some (nI (mkM masks b) - 1) := by
  have hl : ∀ (f j : Nat), j ≤ b → b - j < f → L_X9_width_4 (nI b) masks f (nI (mkM masks j) - 1) (nI j) = some (nI (mkM masks b) - 1) := by
    intro f
    induction f with
    | zero => intro j h1 h2; omega
    | succ f ih =>
      intro j hj hf
      rw [L_X9_width_4]
      rcases Nat.lt_or_ge j b with h | h
      · obtain ⟨m, m1, m2⟩ := hm j h
        have hk := mkM_le masks j
        have hp := pcN_le m
        have t1 := sub1_ti hk
        have t2 := sub1_ti hp
        have ek : mkM masks (j + 1) = if mkM masks j < pcN m then pcN m else mkM masks j := by
          show (if mkM masks j < pcN (masks j).toNatClampNeg then pcN (masks j).toNatClampNeg else mkM masks j) = _
          rw [m1, nI_clamp (by omega)]
        have := ih (j + 1) (by omega) (by omega)
        rw [ek] at this
        rw [if_neg (nI_ge h (by omega)), ld_ok _ (in14 (by omega)), cl14 (by omega), m1, cal_e (bits_n m2)]
        rcases Nat.lt_or_ge (mkM masks j) (pcN m) with c | c
        · rw [if_pos c] at this
          rw [if_neg (fun z => by have := ple z; omega), ld_ok _ (in14 (by omega)), cl14 (by omega), m1, cal_e (bits_n m2), bnd_s, bnd_s, nI_1]
          exact this
        · rw [if_neg (by omega)] at this
          rw [if_pos (Int32.le_iff_toInt_le.mpr (by omega)), bnd_s, bnd_s, nI_1]
          exact this
      · have e : j = b := by omega
        subst e
        rw [if_pos (nI_le (Nat.le_refl _) (by omega))]
        rcases Nat.eq_zero_or_pos j with z | z
        · subst z
          rw [if_pos (by decide)]
          show some (-1 : Int32) = some (nI 0 - 1)
          decide
        · rw [if_neg (nI_ne0 z (by omega))]
  unfold f_X9_width
  rw [bnd_s, bnd_s]
  exact hl NN 0 (by omega) (by show b - 0 < 32768; omega)
theorem Bag_m {n : Nat} (hn : n ≤ 14) {b : Nat} {masks : Nat → Int32} (h : ∀ i, i < b → ∃ m, masks i = nI m ∧ m < 2 ^ n) : ∀ i, i < b → ∃ m, masks i = nI m ∧ m < 16384 := fun i hi => by
  obtain ⟨m, m1, m2⟩ := h i hi
  exact ⟨m, m1, Nat.lt_of_lt_of_le m2 (p2n hn)⟩
theorem width_rel {n : Nat} (hn : n ≤ 14) {bs tb : Int32} {masks ups bag up : Nat → Int32} (T : BagT n bs tb masks ups bag up) : Rel (f_X8_width bs masks) (f_X9_width tb bag) (fun x m => m = x) := by
  obtain ⟨rfl, rfl, rfl, b, hb, rfl, hm, hu⟩ := T
  have hm2 := Bag_m hn hm
  refine rr (width_n hb hm2) ?_
  unfold f_X8_width
  rcases Nat.eq_zero_or_pos b with z | z
  · subst z
    exact rl (if_pos (by decide)) (rel_some (show nI 0 - 1 = (-1 : Int32) by decide))
  · exact rl (if_neg (nI_ne0 z (by omega))) (rl (cal_e (mostKnots_n hb hm2)) (rel_some rfl))
/-- the place behind i that a bag hangs on -/
def NP (row : Nat → Int32) (r i s : Nat) (x : Int32) : Prop := (∃ j, i < j ∧ j < r ∧ s.testBit (row j).toNatClampNeg = true ∧ (∀ l, i < l → l < j → s.testBit (row l).toNatClampNeg = false) ∧ x = nI j) ∨ ((∀ l, i < l → l < r → s.testBit (row l).toNatClampNeg = false) ∧ x = if i + 1 < r then nI (i + 1) else -1)
theorem NP_uniq {f g : Nat → Int32} {r i s : Nat} {x y : Int32} (e : ∀ j, j < r → f j = g j) (h : NP f r i s x) (h' : NP g r i s y) : x = y := by
  rcases h with ⟨j, j1, j2, j3, j4, j5⟩ | ⟨a, b⟩
  · rcases h' with ⟨k, k1, k2, k3, k4, k5⟩ | ⟨a', _⟩
    · rcases Nat.lt_trichotomy j k with z | z | z
      · have := k4 j j1 z
        rw [← e j j2, j3] at this; cases this
      · rw [j5, k5, z]
      · have := j4 k k1 z
        rw [e k k2, k3] at this; cases this
    · have := a' j j1 j2
      rw [← e j j2, j3] at this; cases this
  · rcases h' with ⟨k, k1, k2, k3, _, _⟩ | ⟨_, b'⟩
    · have := a k k1 k2
      rw [e k k2, k3] at this; cases this
    · rw [b, b']
theorem nextPlace_n {n r i s : Nat} (hn : n ≤ 14) (hr : r ≤ 14) (hi : i < r) (hs : s < 16384) {row : Nat → Int32} (hR : RowN n row r) : ∃ x, f_X2_nextPlace (nI i) (nI s) (nI r) row = some x ∧ NP row r i s x := by
  have hl : ∀ (f j : Nat), i < j → j ≤ r → r - j < f → (∀ l, i < l → l < j → s.testBit (row l).toNatClampNeg = false) → ∃ x, L_X2_nextPlace_4 (nI i) (nI s) (nI r) row f (nI j) = some x ∧ NP row r i s x := by
    intro f
    induction f with
    | zero => intro j h1 h2 h3; omega
    | succ f ih =>
      intro j hij hj hf hN
      rw [L_X2_nextPlace_4]
      rcases Nat.lt_or_ge j r with h | h
      · obtain ⟨k, k1, k2⟩ := hR j h
        have ec : (row j).toNatClampNeg = k := by rw [k2, nI_clamp (by omega)]
        rw [if_neg (nI_ge h (by omega)), ld_ok _ (in14 (by omega)), cl14 (by omega), k2]
        by_cases b : s.testBit k = true
        · rw [cal_e (hasB1 hs (by omega) b), if_neg n10]
          exact ⟨nI j, rfl, Or.inl ⟨j, hij, h, by rw [ec]; exact b, hN, rfl⟩⟩
        · rw [cal_e (hasB0 hs (by omega) (bf b)), if_pos rfl, bnd_s, nI_1]
          refine ih (j + 1) (by omega) (by omega) (by omega) fun l l1 l2 => ?_
          by_cases e : l = j
          · subst e; rw [ec]; exact bf b
          · exact hN l l1 (by omega)
      · have e : j = r := by omega
        subst e
        rw [if_pos (nI_le (Nat.le_refl _) (by omega)), nI_1]
        rcases Nat.lt_or_ge (i + 1) j with c | c
        · rw [if_neg (nI_ge c (by omega))]
          exact ⟨nI (i + 1), rfl, Or.inr ⟨hN, by rw [if_pos c]⟩⟩
        · rw [if_pos (nI_le c (by omega))]
          exact ⟨-1, rfl, Or.inr ⟨hN, by rw [if_neg (by omega)]⟩⟩
  unfold f_X2_nextPlace
  rw [bnd_s, nI_1]
  exact hl NN (i + 1) (by omega) (by omega) (by show r - (i + 1) < 32768; omega) (fun l l1 l2 => by omega)
/-- a row without knots twice -/
theorem Ord_new {n : Nat} (hn : n ≤ 14) {row : Nat → Int32} {r : Nat} (hR : RowN n row r) (hp : pcN (rmN row r) = r) : ∀ j, j < r → ∃ k, k < n ∧ row j = nI k ∧ (rmN row j).testBit k = false ∧ pcN (rmN row j) = j := by
  have st : ∀ j, j < r → pcN (rmN row (j + 1)) ≤ pcN (rmN row j) + 1 := fun j _ => pcN_add_le _ _
  have up : ∀ j, j ≤ r → pcN (rmN row j) ≤ j := by
    intro j
    induction j with
    | zero => intro _; exact Nat.le_of_eq (pcU_0 14)
    | succ j ih => intro h; have := st j (by omega); have := ih (by omega); omega
  have dn : ∀ d, d ≤ r → r - d ≤ pcN (rmN row (r - d)) := by
    intro d
    induction d with
    | zero => intro _; rw [Nat.sub_zero, hp]; exact Nat.le_refl _
    | succ d ih =>
      intro h
      have h1 := ih (by omega)
      have h2 := st (r - (d + 1)) (by omega)
      rw [show r - (d + 1) + 1 = r - d from by omega] at h2
      omega
  have eq : ∀ j, j ≤ r → pcN (rmN row j) = j := fun j hj => by
    have h1 := up j hj
    have h2 := dn (r - j) (by omega)
    rw [show r - (r - j) = j from by omega] at h2
    omega
  intro j hj
  obtain ⟨k, k1, k2⟩ := hR j hj
  refine ⟨k, k1, k2, bf fun z => ?_, eq j (by omega)⟩
  have h1 := eq (j + 1) (by omega)
  have h2 := eq j (by omega)
  have : pcN (rmN row (j + 1)) ≤ pcN (rmN row j) := pcN_mono fun i hi => by
    have : (rmN row j ||| 2 ^ (row j).toNatClampNeg).testBit i = true := hi
    rw [k2, nI_clamp (by omega), or2_t] at this
    rcases this with w | w
    · exact w
    · subst w; exact z
  omega
/-- the bags of an order -/
def MB (n : Nat) (ar : Nat → Nat → Nat) (row masks ups : Nat → Int32) (i : Nat) : Prop := ∀ j, i ≤ j → j < n → ∃ k, k < n ∧ row j = nI k ∧ (rmN row j).testBit k = false ∧ masks j = nI (ar (rmN row j) k ||| 2 ^ k) ∧ NP row n j (ar (rmN row j) k) (ups j)
theorem cl_apart {n : Nat} {B : Nat → Nat} {near0 : Nat → Int32} (N : NetN n B near0) {knots : Nat → Int32} (hR : RowN n knots n) (hp : pcN (rmN knots n) = n) : ∀ (m i e f : Nat) (masks ups : Nat → Int32) (left : Int32) (near : Nat → Int32), i + m = n → m < f → GS n (arN near0 (nI n)) (rmN knots i) left near → ∃ masks' ups' a b c, L_X0_takeApart_10 (nI n) knots f (nI i) (nI n) masks ups left (nI e) near = some (nI n, masks', ups', a, b, c) ∧ (∀ j, j < i ∨ n ≤ j → masks' j = masks j ∧ ups' j = ups j) ∧ MB n (arN near0 (nI n)) knots masks' ups' i := by
  have hn := N.1
  have A := arS_n N
  intro m
  induction m with
  | zero =>
    intro i e f masks ups left near hi hf S
    obtain ⟨f, rfl⟩ := Nat.exists_eq_succ_of_ne_zero (show f ≠ 0 by omega)
    refine ⟨masks, ups, left, nI e, near, ?_, fun j _ => ⟨rfl, rfl⟩, fun j h1 h2 => by omega⟩
    rw [L_X0_takeApart_10, if_pos (nI_le (by omega) (by omega))]
  | succ m ih =>
    intro i e f masks ups left near hi hf S
    obtain ⟨f, rfl⟩ := Nat.exists_eq_succ_of_ne_zero (show f ≠ 0 by omega)
    obtain ⟨k, k1, k2, k3, _⟩ := Ord_new hn hR hp i (by omega)
    have hG := S.1
    have la := ar_lt A hn hG k1
    have ek : near k = nI (arN near0 (nI n) (rmN knots i) k) := by
      rw [(S.2.2 k (by omega)).1, gA_in hn k1 k3]
    obtain ⟨x, x1, x2⟩ := nextPlace_n (s := arN near0 (nI n) (rmN knots i) k) hn hn (show i < n by omega) la hR
    obtain ⟨left', near', g1, g2⟩ := letGo_g (e := e) A hn S k1 k3
    have er : rmN knots (i + 1) = rmN knots i ||| 2 ^ k := by
      show rmN knots i ||| 2 ^ (knots i).toNatClampNeg = _
      rw [k2, nI_clamp (by omega)]
    rw [← er] at g2
    obtain ⟨masks', ups', a, b, c, h1, h2, h3⟩ := ih (i + 1) _ f (upd masks i (nI (arN near0 (nI n) (rmN knots i) k ||| 2 ^ k))) (upd ups i x) left' near' (by omega) (by omega) g2
    refine ⟨masks', ups', a, b, c, ?_, fun j hj => ?_, fun j j1 j2 => ?_⟩
    · rw [L_X0_takeApart_10, if_neg (nI_ge (by omega) (by omega)), ld_ok _ (in14 (by omega)), cl14 (by omega), k2, bnd_s, ld_ok _ (in14 (by omega)), cl14 (by omega), ek, bnd_s, nx_bit1 k (by omega), nx_or, sI_ok _ (in14 (by omega)), cl14 (by omega), cal_e x1, sI_ok _ (in14 (by omega)), cl14 (by omega), cal_e g1, bnd_s, nI_1]
      exact h1
    · obtain ⟨q1, q2⟩ := h2 j (by omega)
      rw [q1, q2, pk_un (by omega), pk_un (by omega)]
      exact ⟨rfl, rfl⟩
    · by_cases z : j = i
      · subst z
        obtain ⟨q1, q2⟩ := h2 j (by omega)
        rw [pk_us] at q1 q2
        exact ⟨k, k1, k2, k3, q1, by rw [q2]; exact x2⟩
      · exact h3 j (by omega) j2
theorem l_m88 {n : Nat} (hn : n ≤ 14) {near0 row : Nat → Int32} (hR : RowN n row n) {i s k G : Nat} (hi : i < n) (hs : s < 16384) (hk : row i = nI k) (hkn : k < n) (bags : Int32) (bag : Nat → Int32) (kk : Int32 → Int32 → Int32 → (Nat → Int32) → (Nat → Int32) → Option (Int32 × Int32 × (Nat → Int32) × (Nat → Int32))) : ∀ (f j : Nat) (up : Nat → Int32), i ≤ j → j < n → j - i < f → ((∃ l, j < l ∧ l < n ∧ s.testBit (row l).toNatClampNeg = true ∧ (∀ q, j < q → q < l → s.testBit (row q).toNatClampNeg = false) ∧ up i = nI l) ∨ ((∀ l, j < l → l < n → s.testBit (row l).toNatClampNeg = false) ∧ up i = if i + 1 < n then nI (i + 1) else -1)) → ∃ up', L_X9_make_88 (nI n) (nI n) near0 row kk f (nI G) (nI i) (nI s) (nI j) bags bag up = kk (nI (G ||| 2 ^ k)) (nI (i + 1)) bags bag up' ∧ (∀ q, q ≠ i → up' q = up q) ∧ NP row n i s (up' i) := by
  intro f
  induction f with
  | zero => intro j up h1 h2 h3; omega
  | succ f ih =>
    intro j up h1 h2 h3 hI
    rw [L_X9_make_88]
    rcases Nat.lt_or_ge i j with h | h
    · obtain ⟨l, l1, l2⟩ := hR j h2
      have ec : (row j).toNatClampNeg = l := by rw [l2, nI_clamp (by omega)]
      obtain ⟨j', rfl⟩ := Nat.exists_eq_succ_of_ne_zero (show j ≠ 0 by omega)
      rw [if_neg (nI_ge h (by omega)), ld_ok _ (in14 (by omega)), cl14 (by omega), l2]
      by_cases b : s.testBit l = true
      · rw [if_pos ((nx_has1 (by omega) (by omega)).mpr b), sI_ok _ (in14 (by omega)), cl14 (by omega), bnd_s, pk_m1]
        obtain ⟨up', g1, g2, g3⟩ := ih j' (upd up i (nI (j' + 1))) (by omega) (by omega) (by omega) (Or.inl ⟨j' + 1, by omega, h2, by rw [ec]; exact b, fun q q1 q2 => by omega, pk_us⟩)
        exact ⟨up', g1, fun q hq => by rw [g2 q hq, pk_un hq], g3⟩
      · rw [if_neg (fun z => b ((nx_has1 (by omega) (by omega)).mp z)), bnd_s, pk_m1]
        refine ih j' up (by omega) (by omega) (by omega) ?_
        rcases hI with ⟨l', a1, a2, a3, a4, a5⟩ | ⟨a, a2⟩
        · refine Or.inl ⟨l', by omega, a2, a3, fun q q1 q2 => ?_, a5⟩
          by_cases e : q = j' + 1
          · subst e; rw [ec]; exact bf b
          · exact a4 q (by omega) q2
        · refine Or.inr ⟨fun q q1 q2 => ?_, a2⟩
          by_cases e : q = j' + 1
          · subst e; rw [ec]; exact bf b
          · exact a q (by omega) q2
    · have e : j = i := by omega
      subst e
      rw [if_pos (nI_le (Nat.le_refl _) (by omega)), ld_ok _ (in14 (by omega)), cl14 (by omega), hk, bnd_s, bnd_s, nI_1, nx_bit1 k (by omega), nx_or]
      exact ⟨up, rfl, fun q _ => rfl, hI⟩
theorem m_make {n : Nat} {B : Nat → Nat} {near0 : Nat → Int32} (N : NetN n B near0) {row : Nat → Int32} (hR : RowN n row n) (hp : pcN (rmN row n) = n) : ∀ (m i f : Nat) (bags : Int32) (bag up : Nat → Int32), i + m = n → m < f → ∃ bag' up', L_X9_make_21 (nI n) (nI n) near0 row f (nI (rmN row i)) (nI i) bags bag up = (cal (f_X9_width (nI n) bag') fun u5 => some (u5, nI n, bag', up')) ∧ (∀ j, j < i ∨ n ≤ j → bag' j = bag j ∧ up' j = up j) ∧ MB n (arN near0 (nI n)) row bag' up' i := by
  have hn := N.1
  have A := arS_n N
  intro m
  induction m with
  | zero =>
    intro i f bags bag up hi hf
    obtain ⟨f, rfl⟩ := Nat.exists_eq_succ_of_ne_zero (show f ≠ 0 by omega)
    refine ⟨bag, up, ?_, fun j _ => ⟨rfl, rfl⟩, fun j h1 h2 => by omega⟩
    rw [L_X9_make_21, if_pos (nI_le (by omega) (by omega)), bnd_s]
  | succ m ih =>
    intro i f bags bag up hi hf
    obtain ⟨f, rfl⟩ := Nat.exists_eq_succ_of_ne_zero (show f ≠ 0 by omega)
    obtain ⟨k, k1, k2, k3, _⟩ := Ord_new hn hR hp i (by omega)
    have hG := rmN_lt2 hn hR i (by omega)
    obtain ⟨a1, a2, _⟩ := arN_ar N hG k1
    have er : rmN row (i + 1) = rmN row i ||| 2 ^ k := by
      show rmN row i ||| 2 ^ (row i).toNatClampNeg = _
      rw [k2, nI_clamp (by omega)]
    have es : nI n - (1 : Int32) = nI (n - 1) := pk_sub (b := 1) (by omega)
    have go : ∀ up1 : Nat → Int32, (∀ q, q ≠ i → up1 q = up q) → up1 i = (if i + 1 < n then nI (i + 1) else -1) → ∃ bag' up', L_X9_make_88 (nI n) (nI n) near0 row (fun y0 y1 y2 y3 y4 => L_X9_make_21 (nI n) (nI n) near0 row f y0 y1 y2 y3 y4) NN (nI (rmN row i)) (nI i) (nI (arN near0 (nI n) (rmN row i) k)) (nI (n - 1)) bags (upd bag i (nI (arN near0 (nI n) (rmN row i) k ||| 2 ^ k))) up1 = (cal (f_X9_width (nI n) bag') fun u5 => some (u5, nI n, bag', up')) ∧ (∀ j, j < i ∨ n ≤ j → bag' j = bag j ∧ up' j = up j) ∧ MB n (arN near0 (nI n)) row bag' up' i := by
      intro up1 u1 u2
      obtain ⟨up2, g1, g2, g3⟩ := l_m88 hn hR (near0 := near0) (G := rmN row i) (i := i) (by omega) a1 k2 k1 bags (upd bag i (nI (arN near0 (nI n) (rmN row i) k ||| 2 ^ k))) (fun y0 y1 y2 y3 y4 => L_X9_make_21 (nI n) (nI n) near0 row f y0 y1 y2 y3 y4) NN (n - 1) up1 (by omega) (by omega) (by show n - 1 - i < 32768; omega) (Or.inr ⟨fun l l1 l2 => by omega, u2⟩)
      obtain ⟨bag', up', h1, h2, h3⟩ := ih (i + 1) f bags (upd bag i (nI (arN near0 (nI n) (rmN row i) k ||| 2 ^ k))) up2 (by omega) (by omega)
      rw [er] at h1
      refine ⟨bag', up', g1.trans h1, fun j hj => ?_, fun j j1 j2 => ?_⟩
      · obtain ⟨q1, q2⟩ := h2 j (by omega)
        rw [q1, q2, pk_un (by omega), g2 j (by omega), u1 j (by omega)]
        exact ⟨rfl, rfl⟩
      · by_cases z : j = i
        · subst z
          obtain ⟨q1, q2⟩ := h2 j (by omega)
          rw [pk_us] at q1
          exact ⟨k, k1, k2, k3, q1, by rw [q2]; exact g3⟩
        · exact h3 j (by omega) j2
    rw [L_X9_make_21, if_neg (nI_ge (by omega) (by omega)), ld_ok _ (in14 (by omega)), cl14 (by omega), k2, cal_e a2, bnd_s, ld_ok _ (in14 (by omega)), cl14 (by omega), k2, nx_bit1 k (by omega), nx_or, sI_ok _ (in14 (by omega)), cl14 (by omega), nI_1]
    rcases Nat.lt_or_ge (i + 1) n with c | c
    · rw [if_neg (nI_ge c (by omega)), sI_ok _ (in14 (by omega)), cl14 (by omega), bnd_s, es]
      exact go _ (fun q hq => pk_un hq) (by rw [pk_us, if_pos c])
    · rw [if_pos (nI_le c (by omega)), sI_ok _ (in14 (by omega)), cl14 (by omega), bnd_s, es]
      exact go _ (fun q hq => pk_un hq) (by rw [pk_us, if_neg (by omega)])
theorem MB_eq {n : Nat} (hn : n ≤ 14) {ar : Nat → Nat → Nat} {f g m1 u1 m2 u2 : Nat → Int32} (e : ∀ j, j < n → f j = g j) (h : MB n ar f m1 u1 0) (h' : MB n ar g m2 u2 0) : ∀ j, j < n → m1 j = m2 j ∧ u1 j = u2 j := by
  intro j hj
  obtain ⟨k, k1, k2, k3, k4, k5⟩ := h j (Nat.zero_le _) hj
  obtain ⟨q, q1, q2, q3, q4, q5⟩ := h' j (Nat.zero_le _) hj
  have er : rmN f j = rmN g j := rmN_congr j (fun l hl => e l (by omega))
  have ek : nI k = nI q := by rw [← k2, ← q2]; exact e j hj
  have : k = q := (nI_eq (by omega) (by omega)).mp ek
  subst this
  rw [← er] at q4 q5
  exact ⟨k4.trans q4.symm, NP_uniq e k5 q5⟩
theorem MB_bag {n : Nat} {B : Nat → Nat} {ar : Nat → Nat → Nat} (A : ArS n B ar) (hn : n ≤ 14) {row masks ups : Nat → Int32} (hR : RowN n row n) (h : MB n ar row masks ups 0) : (∀ i, i < n → ∃ m, masks i = nI m ∧ m < 2 ^ n) ∧ ∀ i, i < n → ups i = -1 ∨ ∃ u, ups i = nI u ∧ i < u ∧ u < n := by
  refine ⟨fun i hi => ?_, fun i hi => ?_⟩
  · obtain ⟨k, k1, k2, k3, k4, k5⟩ := h i (Nat.zero_le _) hi
    have hG := rmN_lt2 hn hR i (by omega)
    refine ⟨_, k4, lt2n ?_ k1⟩
    refine Nat.lt_pow_two_of_testBit (n := n) _ fun j hj => bf fun z => ?_
    have := (A.1 _ k j hG k1 z).1
    omega
  · obtain ⟨k, k1, k2, k3, k4, k5⟩ := h i (Nat.zero_le _) hi
    rcases k5 with ⟨j, j1, j2, _, _, j5⟩ | ⟨_, b⟩
    · exact Or.inr ⟨j, j5, j1, j2⟩
    · by_cases c : i + 1 < n
      · rw [if_pos c] at b; exact Or.inr ⟨i + 1, b, by omega, c⟩
      · rw [if_neg c] at b; exact Or.inl b
theorem make_rel {n : Nat} {B : Nat → Nat} {near0 : Nat → Int32} (N : NetN n B near0) {os held rowed bs tb : Int32} {knots row masks ups bag up : Nat → Int32} (T : OrdT n os held rowed knots row) (TB : BagT n bs tb masks ups bag up) (left ne : Int32) (near : Nat → Int32) : Rel (f_X8_make (nI n) near0 os knots bs masks ups left ne near) (f_X9_make (nI n) rowed tb near0 row bag up) (fun x m => m.1 = x.1 ∧ BagT n x.2.1 m.2.1 x.2.2.1 x.2.2.2.1 m.2.2.1 m.2.2.2) := by
  have hn := N.1
  obtain ⟨r, hr, rfl, rfl, e, hR, rfl, hp⟩ := T
  unfold f_X8_make f_X9_make f_X9_isOrder
  rcases Nat.eq_zero_or_pos n with z | z
  · subst z
    refine rl (if_pos (by decide)) ?_
    have er : r = 0 := by omega
    subst er
    exact rr (cal_e (if_pos rfl)) (rr (if_neg n10) (rr (if_pos (by decide)) (rel_some ⟨rfl, TB⟩)))
  · refine rl (if_neg (nI_ne0 z (by omega))) ?_
    by_cases c : r = n
    · subst c
      refine rl (if_pos rfl) (rr (cal_e (if_pos rfl)) (rr (if_neg n10) (rr (if_neg (nI_ne0 z (by omega))) ?_)))
      have hRk : RowN r knots r := fun j hj => by
        obtain ⟨k, k1, k2⟩ := hR j hj
        exact ⟨k, k1, by rw [e j hj]; exact k2⟩
      have erm : rmN knots r = rmN row r := rmN_congr r e
      obtain ⟨l1, n1, h1, S⟩ := start_g N left ne near
      obtain ⟨masks', ups', a, b, cc, g1, g2, g3⟩ := cl_apart N hRk (by rw [erm]; exact hp) r 0 0 NN masks ups l1 n1 (by omega) (by show r < 32768; omega) S
      obtain ⟨bag', up', k1, k2, k3⟩ := m_make N hR hp r 0 NN tb bag up (by omega) (by show r < 32768; omega)
      obtain ⟨_, rfl, rfl, _⟩ := TB
      have eq := MB_eq hn e g3 k3
      have em : masks' = bag' := funext fun j => by
        rcases Nat.lt_or_ge j r with w | w
        · exact (eq j w).1
        · rw [(g2 j (Or.inr w)).1, (k2 j (Or.inr w)).1]
      have eu : ups' = up' := funext fun j => by
        rcases Nat.lt_or_ge j r with w | w
        · exact (eq j w).2
        · rw [(g2 j (Or.inr w)).2, (k2 j (Or.inr w)).2]
      obtain ⟨b1, b2⟩ := MB_bag (arS_n N) hn hRk g3
      have et : f_X0_takeApart bs masks ups (nI r) knots l1 0 n1 = some (nI r, masks', ups', a, b, cc) := by
        unfold f_X0_takeApart
        rw [bnd_s, bnd_s]; exact g1
      refine rl (cal_e h1) (rl (cal_e et) (rl (cal_e (mostKnots_n hn (Bag_m hn b1))) ?_))
      refine rr (bnd_s _ _) (rr (bnd_s _ _) (rr k1 ?_))
      rw [← em]
      refine rr (cal_e (width_n hn (Bag_m hn b1))) (rel_some ⟨rfl, rfl, rfl, eu, r, hn, rfl, b1, b2⟩)
    · have c2 : ¬ nI r = nI n := fun w => c ((nI_eq (by omega) (by omega)).mp w)
      exact rl (if_neg c2) (rr (cal_e (if_neg c2)) (rr (if_pos rfl) (rel_some ⟨rfl, TB⟩)))
