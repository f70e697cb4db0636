/-! put, rows; bags told one by one. -/
/-- both sides' rows -/
def OrdT (n : Nat) (os held rowed : Int32) (knots row : Nat → Int32) : Prop := ∃ r, r ≤ n ∧ os = nI r ∧ rowed = nI r ∧ (∀ j, j < r → knots j = row j) ∧ RowN n row r ∧ held = nI (rmN row r) ∧ pcN (rmN row r) = r
theorem Ord_0 (n : Nat) (knots row : Nat → Int32) : OrdT n 0 0 0 knots row := ⟨0, Nat.zero_le _, rfl, rfl, fun j hj => by omega, fun j hj => by omega, rfl, pcU_0 14⟩
theorem Ord_full {n : Nat} (hn : n ≤ 14) {knots row : Nat → Int32} (h1 : ∀ j, j < n → knots j = row j) (h2 : RowN n row n) (h3 : rmN row n = 2 ^ n - 1) : OrdT n (nI n) (nI (2 ^ n - 1)) (nI n) knots row := by
  refine ⟨n, Nat.le_refl _, rfl, rfl, h1, h2, by rw [h3], ?_⟩
  rw [h3, ← lm0 hn, lm0_pc hn]
theorem pcU_le2 {n m : Nat} (hn : n ≤ 14) (hm : m < 2 ^ n) : pcN m ≤ n := by
  have : pcU 14 m = pcU n m := pcU_top hn fun i hi => Nat.testBit_lt_two_pow (Nat.lt_of_lt_of_le hm (Nat.pow_le_pow_right (by decide) hi))
  have h2 := pcU_le n m
  unfold pcN; omega
theorem has_n {n : Nat} (hn : n ≤ 14) (a : Int32) : (f_X4_has a (nI n) = some 0) ∨ ∃ k, k < n ∧ a = nI k ∧ f_X4_has a (nI n) = some 1 := by
  unfold f_X4_has
  rcases pk_ix a (n := n) (by omega) with z | z | ⟨k, k1, k2⟩
  · exact Or.inl (if_pos z)
  · by_cases c : a < 0
    · exact Or.inl (if_pos c)
    · exact Or.inl (by rw [if_neg c, if_pos z])
  · subst k2
    exact Or.inr ⟨k, k1, rfl, by rw [if_neg (nI_pos (by omega)), if_neg (nI_ge k1 (by omega))]⟩
theorem rowMask_n {n : Nat} (hn : n ≤ 14) {row : Nat → Int32} {r : Nat} (hr : r ≤ 14) (hR : RowN n row r) : f_X9_rowMask (nI r) row = some (nI (rmN row r)) := by
  have hl : ∀ (f j : Nat), j ≤ r → r - j < f → L_X9_rowMask_4 (nI r) row f (nI (rmN row j)) (nI j) = some (nI (rmN row r)) := by
    intro f
    induction f with
    | zero => intro j h1 h2; omega
    | succ f ih =>
      intro j hj hf
      rw [L_X9_rowMask_4]
      rcases Nat.lt_or_ge j r with h | h
      · obtain ⟨k, k1, k2⟩ := hR j h
        rw [if_neg (nI_ge h (by omega)), ld_ok _ (in14 (by omega)), cl14 (by omega), k2, bnd_s, bnd_s, nI_1, nx_bit1 k (by omega), nx_or]
        have e : rmN row j ||| 2 ^ k = rmN row (j + 1) := by
          show _ = rmN row j ||| 2 ^ (row j).toNatClampNeg
          rw [k2, nI_clamp (by omega)]
        rw [e]
        exact ih (j + 1) (by omega) (by omega)
      · rw [if_pos (nI_le h (by omega)), show j = r from by omega]
  unfold f_X9_rowMask
  rw [bnd_s, bnd_s]
  exact hl NN 0 (by omega) (by show r - 0 < 32768; omega)
theorem put_rel {n : Nat} (hn : n ≤ 14) {os held rowed : Int32} {knots row : Nat → Int32} (T : OrdT n os held rowed knots row) (a : Int32) : Rel (f_X8_put a (nI n) os held knots) (f_X9_put a (nI n) rowed row) (fun x m => m.1 = x.1 ∧ OrdT n x.2.1 x.2.2.1 m.2.1 x.2.2.2 m.2.2) := by
  have T0 := T
  obtain ⟨r, hr, rfl, rfl, e, hR, rfl, hp⟩ := T
  have hlt := rmN_lt2 hn hR r (Nat.le_refl _)
  have h2n := p2n hn
  unfold f_X8_put f_X9_put
  rcases has_n hn a with h | ⟨k, k1, rfl, h⟩
  · refine rl (cal_e h) (rr (cal_e (show f_X9_isKnot a (nI n) = some 0 from h)) (rl (if_pos rfl) (rr (if_pos rfl) (rel_some ⟨rfl, T0⟩))))
  · refine rl (cal_e h) (rr (cal_e (show f_X9_isKnot (nI k) (nI n) = some 1 from h)) (rl (if_neg n10) (rr (if_neg n10) (rr (cal_e (rowMask_n hn (by omega) hR)) ?_))))
    by_cases b : (rmN row r).testBit k = true
    · have eh : f_X2_holds (nI k) (nI (rmN row r)) = some 1 := by
        unfold f_X2_holds
        rw [cal_e (hasB1 (by omega) (by omega) b), chk_ok (Or.inr rfl)]
      refine rl (cal_e eh) (rl (if_neg n10) (rr (if_pos ((nx_has1 (by omega) (by omega)).mpr b)) (rel_some ⟨rfl, T0⟩)))
    · have eh : f_X2_holds (nI k) (nI (rmN row r)) = some 0 := by
        unfold f_X2_holds
        rw [cal_e (hasB0 (by omega) (by omega) (bf b)), chk_ok (Or.inl rfl)]
      have hp2 := pcN_add (m := rmN row r) (j := k) (by omega) (bf b)
      have hle := pcU_le2 hn (lt2n hlt k1)
      refine rl (cal_e eh) (rl (if_pos rfl) (rr (if_neg (fun z => b ((nx_has1 (by omega) (by omega)).mp z))) (rl (cal_e (app_n (by omega) (by omega) knots)) (rr (sI_ok _ (in14 (by omega))) ?_))))
      rw [cl14 (by omega)]
      refine rr (bnd_s _ _) ?_
      rw [nI_1]
      refine rel_some ⟨rfl, r + 1, by omega, rfl, rfl, fun j hj => ?_, fun j hj => ?_, ?_, ?_⟩
      · dsimp only
        by_cases z : j = r
        · subst z; rw [pk_us, pk_us]
        · rw [pk_un z, pk_un z]; exact e j (by omega)
      · dsimp only
        by_cases z : j = r
        · subst z; exact ⟨k, k1, pk_us⟩
        · rw [pk_un z]; exact hR j (by omega)
      · dsimp only
        rw [rmN_app2 row r (by omega)]
      · dsimp only
        rw [rmN_app2 row r (by omega)]; omega
theorem row_rel {n : Nat} (hn : n ≤ 14) {os held rowed : Int32} {knots row : Nat → Int32} (T : OrdT n os held rowed knots row) (a : Int32) : Rel (f_X8_row a os knots) (f_X9_row a rowed row) (fun x m => m = x) := by
  obtain ⟨r, hr, rfl, rfl, e, hR, rfl, hp⟩ := T
  unfold f_X8_row f_X9_row
  rcases pk_ix a (n := r) (by omega) with z | z | ⟨k, k1, rfl⟩
  · exact rl (if_pos z) (rr (if_pos z) (rel_some rfl))
  · by_cases c : a < 0
    · exact rl (if_pos c) (rr (if_pos c) (rel_some rfl))
    · refine rl (if_neg c) (rr (if_neg c) (rl (if_pos z) (rr (if_neg (fun w => (lt_iff_not_le _ _).mp w z)) (rel_some rfl))))
  · refine rl (if_neg (nI_pos (by omega))) (rr (if_neg (nI_pos (by omega))) (rl (if_neg (nI_ge k1 (by omega))) (rr (if_pos (nI_lt k1 (by omega))) (rl (ld_ok _ (in14 (by omega))) (rr (ld_ok _ (in14 (by omega))) (rel_some ?_))))))
    rw [cl14 (by omega), e k k1]
/-- both sides' bags -/
def BagT (n : Nat) (bs tb : Int32) (masks ups bag up : Nat → Int32) : Prop := bs = tb ∧ masks = bag ∧ ups = up ∧ ∃ b, b ≤ 14 ∧ bs = nI b ∧ (∀ i, i < b → ∃ m, masks i = nI m ∧ m < 2 ^ n) ∧ ∀ i, i < b → ups i = -1 ∨ ∃ u, ups i = nI u ∧ i < u ∧ u < b
theorem Bag_0 (n : Nat) {masks ups bag up : Nat → Int32} (h1 : masks = bag) (h2 : ups = up) : BagT n 0 0 masks ups bag up := ⟨rfl, h1, h2, 0, by omega, rfl, fun i hi => by omega, fun i hi => by omega⟩
theorem sub_all {n : Nat} (hn : n ≤ 14) {a : Int32} (ha : ¬ a ≤ 0) (h : (a &&& (nI (2 ^ n - 1) ^^^ (-1 : Int32))) = 0) : ∃ m, a = nI m ∧ m < 2 ^ n := by
  have h2n := p2n hn
  have hq : 0 < 2 ^ n := Nat.two_pow_pos n
  have h0 : ¬ a < 0 := fun z => ha (by rw [Int32.le_iff_toInt_le]; have := plt z; omega)
  obtain ⟨m, m1, rfl⟩ := nI_of h0
  rw [nx_nd] at h
  have hl := nd_le m (2 ^ n - 1)
  have e : nd m (2 ^ n - 1) = 0 := by
    rcases Nat.eq_zero_or_pos (nd m (2 ^ n - 1)) with z | z
    · exact z
    · exact absurd h (nI_ne0 z (by omega))
  have hm : m ≤ 2 ^ n - 1 := by
    apply Nat.le_of_testBit
    intro i hi
    have := nd_bit (a := m) (2 ^ n - 1) i (by omega)
    rw [e, Nat.zero_testBit, hi] at this
    simpa using this.symm
  exact ⟨m, rfl, by omega⟩
theorem neg_bad {n : Nat} (hn : n ≤ 14) {a : Int32} (ha : a < 0) : ¬ (a &&& (nI (2 ^ n - 1) ^^^ (-1 : Int32))) = 0 := by
  have h2n := p2n hn
  intro h
  obtain ⟨m, m1, rfl⟩ := wb_of32' a
  rw [nx_nd] at h
  have hl := nd_le m (2 ^ n - 1)
  have h31 : m.testBit 31 = true := by
    by_cases c : m < 2 ^ 31
    · exact absurd ha (nI_pos c)
    · rw [tb_dm]
      refine decide_eq_true ?_
      have : m / 2 ^ 31 = 1 := by omega
      omega
  have hb : (nd m (2 ^ n - 1)).testBit 31 = true := by
    rw [nd_bit _ _ m1, h31, tb_all, decide_eq_false (by omega)]; rfl
  have e0 : nI (nd m (2 ^ n - 1)) = nI 0 := h
  have e1 := congrArg (fun x : Int32 => x.toBitVec.toNat) e0
  try dsimp only at e1
  rw [pk_tn (by omega), pk_tn (by decide)] at e1
  rw [e1, Nat.zero_testBit] at hb; cases hb
theorem bag_rel {n : Nat} (hn : n ≤ 14) {bs tb : Int32} {masks ups bag up : Nat → Int32} (T : BagT n bs tb masks ups bag up) (a : Int32) : Rel (f_X8_bag a (nI n) bs masks ups) (f_X9_bag a (nI n) tb bag up) (fun x m => m.1 = x.1 ∧ BagT n x.2.1 m.2.1 x.2.2.1 x.2.2.2 m.2.2.1 m.2.2.2) := by
  have T0 := T
  obtain ⟨rfl, rfl, rfl, b, hb, rfl, hm, hu⟩ := T
  have ea : f_X4_everyKnot (nI n) = some (nI (2 ^ n - 1)) := by unfold f_X4_everyKnot; rw [all_v hn]
  have l0 : (0 : Int32).toInt = 0 := rfl
  unfold f_X8_bag f_X9_bag
  by_cases z : a = 0
  · exact rl (if_pos z) (rr (if_pos (by rw [z]; decide)) (rel_some ⟨rfl, T0⟩))
  · refine rl (if_neg z) (rl (cal_e ea) ?_)
    by_cases zn : a < 0
    · have zl : a ≤ 0 := by rw [Int32.le_iff_toInt_le]; have := plt zn; omega
      exact rl (if_neg (neg_bad hn zn)) (rr (if_pos zl) (rel_some ⟨rfl, T0⟩))
    · have zl : ¬ a ≤ 0 := fun w => by
        have w1 := ple w
        have w2 := nlt zn
        exact z (Int32.toInt_inj.mp (by omega))
      refine rr (if_neg zl) (rr (cal_e (show f_X9_all (nI n) = some (nI (2 ^ n - 1)) from ea)) ?_)
      by_cases c : (a &&& (nI (2 ^ n - 1) ^^^ (-1 : Int32))) = 0
      · obtain ⟨m, rfl, hm2⟩ := sub_all hn zl c
        refine rl (if_pos c) (rr (if_pos c) ?_)
        rcases Nat.lt_or_ge b 14 with h | h
        · refine rl (if_pos (show nI b < (14 : Int32) from nI_lt (b := 14) h (by decide))) (rr (if_neg (fun w => by have := (nI_eq (by omega) (by decide)).mp (show nI b = nI 14 from w); omega)) ?_)
          have hap : ∀ ups1 : Nat → Int32, J_X0_append_22 (nI m) (nI b) masks ups1 = some (nI b, nI (b + 1), upd masks b (nI m), upd ups1 b (-1)) := by
            intro ups1
            unfold J_X0_append_22
            rw [sI_ok _ (in14 h), sI_ok _ (in14 h), cl14 h, bnd_s, nI_1, nI_pred]
          have hap9 : ∀ ups1 : Nat → Int32, J_X9_bag_52 (nI m) (nI n) (nI b) masks ups1 = some (nI b, nI (b + 1), upd masks b (nI m), upd ups1 b (-1)) := by
            intro ups1
            unfold J_X9_bag_52
            rw [sI_ok _ (in14 h), sI_ok _ (in14 h), cl14 h, bnd_s, nI_1, nI_pred]
          have hmask : ∀ i, i < b + 1 → ∃ q, upd masks b (nI m) i = nI q ∧ q < 2 ^ n := by
            intro i hi
            by_cases w : i = b
            · subst w; exact ⟨m, pk_us, hm2⟩
            · rw [pk_un w]; exact hm i (by omega)
          rcases Nat.eq_zero_or_pos b with h0 | h0
          · subst h0
            have e1 : f_X0_append (nI m) (nI 0) masks ups = some (nI 0, nI (0 + 1), upd masks 0 (nI m), upd ups 0 (-1)) := by
              unfold f_X0_append
              rw [if_pos (by decide)]; exact hap ups
            refine rl (cal_e e1) (rr (if_pos (by decide)) (rr (hap9 ups) (rel_some ⟨rfl, rfl, rfl, rfl, 1, by omega, rfl, hmask, fun i hi => Or.inl ?_⟩)))
            have : i = 0 := by omega
            subst this
            show upd ups 0 (-1) 0 = -1
            exact pk_us
          · have es : nI b - (1 : Int32) = nI (b - 1) := pk_sub (b := 1) (by omega)
            have e1 : f_X0_append (nI m) (nI b) masks ups = some (nI b, nI (b + 1), upd masks b (nI m), upd (upd ups (b - 1) (nI b)) b (-1)) := by
              unfold f_X0_append
              rw [if_neg (nI_nle h0 (by omega)), es, sI_ok _ (in14 (by omega)), cl14 (by omega)]; exact hap _
            refine rl (cal_e e1) (rr (if_neg (nI_nle h0 (by omega))) ?_)
            rw [es]
            refine rr (sI_ok _ (in14 (by omega))) ?_
            rw [cl14 (by omega)]
            refine rr (hap9 _) (rel_some ⟨rfl, rfl, rfl, rfl, b + 1, by omega, rfl, hmask, fun i hi => ?_⟩)
            dsimp only
            by_cases w : i = b
            · subst w; exact Or.inl pk_us
            · rw [pk_un w]
              by_cases w2 : i = b - 1
              · subst w2; exact Or.inr ⟨b, pk_us, by omega, by omega⟩
              · rw [pk_un w2]
                rcases hu i (by omega) with q | ⟨u, q1, q2, q3⟩
                · exact Or.inl q
                · exact Or.inr ⟨u, q1, q2, by omega⟩
        · have e : b = 14 := by omega
          subst e
          exact rl (if_neg (show ¬ nI 14 < (14 : Int32) by decide)) (rr (if_pos (show nI 14 = (14 : Int32) by decide)) (rel_some ⟨rfl, T0⟩))
      · exact rl (if_neg c) (rr (if_neg c) (rel_some ⟨rfl, T0⟩))
theorem hang_rel {n : Nat} {bs tb : Int32} {masks ups bag up : Nat → Int32} (T : BagT n bs tb masks ups bag up) (a c : Int32) : Rel (f_X8_hang a c bs ups) (f_X9_hang a c tb up) (fun x m => m = x ∧ BagT n bs tb masks x.2 bag m.2) := by
  have T0 := T
  obtain ⟨rfl, rfl, rfl, b, hb, rfl, hm, hu⟩ := T
  unfold f_X8_hang f_X9_hang
  rcases has_n hb a with h | ⟨k, k1, rfl, h⟩
  · refine rl (cal_e (show f_X0_has a (nI b) = some 0 from h)) (rl (if_pos rfl) ?_)
    by_cases z : a < 0
    · exact rr (if_pos z) (rel_some ⟨rfl, T0⟩)
    · refine rr (if_neg z) ?_
      by_cases w : nI b ≤ a
      · exact rr (if_pos w) (rel_some ⟨rfl, T0⟩)
      · exfalso
        unfold f_X4_has at h
        rw [if_neg z, if_neg w] at h
        exact absurd (Option.some.inj h) n10
  · refine rl (cal_e (show f_X0_has (nI k) (nI b) = some 1 from h)) (rl (if_neg n10) (rr (if_neg (nI_pos (by omega))) (rr (if_neg (nI_ge k1 (by omega))) ?_)))
    rcases has_n hb c with g | ⟨l, l1, rfl, g⟩
    · refine rl (cal_e (show f_X0_has c (nI b) = some 0 from g)) (rl (if_pos rfl) ?_)
      by_cases z : c < 0
      · exact rr (if_pos z) (rel_some ⟨rfl, T0⟩)
      · refine rr (if_neg z) ?_
        by_cases w : nI b ≤ c
        · exact rr (if_neg (fun q => (lt_iff_not_le _ _).mp q w)) (rel_some ⟨rfl, T0⟩)
        · exfalso
          unfold f_X4_has at g
          rw [if_neg z, if_neg w] at g
          exact absurd (Option.some.inj g) n10
    · refine rl (cal_e (show f_X0_has (nI l) (nI b) = some 1 from g)) (rl (if_neg n10) (rr (if_neg (nI_pos (by omega))) (rr (if_pos (nI_lt l1 (by omega))) ?_)))
      have es : nI b - (1 : Int32) = nI (b - 1) := pk_sub (b := 1) (by omega)
      rw [es]
      by_cases q : nI k = nI (b - 1)
      · exact rl (if_pos q) (rr (if_pos q) (rel_some ⟨rfl, T0⟩))
      · refine rl (if_neg q) (rr (if_neg q) ?_)
        rcases Nat.lt_or_ge k l with w | w
        · refine rl (if_pos (nI_lt w (by omega))) (rr (if_pos (nI_lt w (by omega))) (rl (ld_ok _ (in14 (by omega))) (rr (ld_ok _ (in14 (by omega))) (rl (bnd_s _ _) (rr (bnd_s _ _) (rl (sI_ok _ (in14 (by omega))) (rr (sI_ok _ (in14 (by omega))) (rel_some ⟨rfl, rfl, rfl, rfl, b, hb, rfl, hm, fun i hi => ?_⟩))))))))
          dsimp only
          rw [cl14 (by omega)]
          by_cases e : i = k
          · subst e; exact Or.inr ⟨l, pk_us, w, l1⟩
          · rw [pk_un e]; exact hu i hi
        · exact rl (if_neg (nI_nlt w (by omega))) (rr (if_neg (nI_nlt w (by omega))) (rel_some ⟨rfl, T0⟩))
