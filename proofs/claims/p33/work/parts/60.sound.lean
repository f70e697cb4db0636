/-! sound, bagged. -/
theorem hang_cnt {b : Nat} (hb : b ≤ 14) (ups : Nat → Int32) (a c tk : Int32) (bag : Nat → Int32) : ∀ (f j : Nat) (x : Int32), j ≤ b → b - j < f → ∃ r, L_X0_hangingOn_4 a (nI b) ups f x (nI j) = some r ∧ L_X9_bagged_61 a c (nI b) bag ups f x (nI j) = some r := by
  intro f
  induction f with
  | zero => intro j x h1 h2; omega
  | succ f ih =>
    intro j x hj hf
    rw [L_X0_hangingOn_4, L_X9_bagged_61]
    rcases Nat.lt_or_ge j b with h | h
    · rw [if_neg (nI_ge h (by omega)), if_neg (nI_ge h (by omega)), ld_ok _ (in14 (by omega)), ld_ok _ (in14 (by omega)), cl14 (by omega)]
      by_cases e : ups j = a
      · rw [if_pos e, if_pos e, bnd_s, bnd_s, bnd_s, bnd_s, nI_1]
        exact ih (j + 1) _ (by omega) (by omega)
      · rw [if_neg e, if_neg e, bnd_s, bnd_s, bnd_s, nI_1, Int32.add_zero]
        exact ih (j + 1) _ (by omega) (by omega)
    · rw [if_pos (nI_le h (by omega)), if_pos (nI_le h (by omega))]
      exact ⟨x, rfl, rfl⟩
theorem bagged_rel {n : Nat} {bs tb : Int32} {masks ups bag up : Nat → Int32} (T : BagT n bs tb masks ups bag up) (a c : Int32) : Rel (f_X8_bagged a c bs masks ups) (f_X9_bagged a c tb bag up) (fun x m => m = x) := by
  obtain ⟨rfl, rfl, rfl, b, hb, rfl, hm, hu⟩ := T
  unfold f_X8_bagged f_X9_bagged
  rcases has_n hb a with h | ⟨k, k1, rfl, h⟩
  · refine rl (cal_e (show f_X0_has a (nI b) = some 0 from h)) (rl (if_pos rfl) ?_)
    by_cases z : a < 0
    · exact rr (if_pos z) (rel_some rfl)
    · refine rr (if_neg z) ?_
      by_cases w : a < nI b
      · exfalso
        unfold f_X4_has at h
        rw [if_neg z, if_neg ((lt_iff_not_le _ _).mp w)] at h
        exact absurd (Option.some.inj h) n10
      · exact rr (if_neg w) (rel_some rfl)
  · refine rl (cal_e (show f_X0_has (nI k) (nI b) = some 1 from h)) (rl (if_neg n10) (rr (if_neg (nI_pos (by omega))) (rr (if_pos (nI_lt k1 (by omega))) (rr (bnd_s _ _) ?_))))
    by_cases c0 : c = 0
    · exact rl (if_pos c0) (rr (if_pos c0) (rl (ld_ok _ (in14 (by omega))) (rr (ld_ok _ (in14 (by omega))) (rel_some rfl))))
    · refine rl (if_neg c0) (rr (if_neg c0) ?_)
      by_cases c1 : c = 1
      · exact rl (if_pos c1) (rr (if_pos c1) (rl (ld_ok _ (in14 (by omega))) (rr (ld_ok _ (in14 (by omega))) (rel_some rfl))))
      · refine rl (if_neg c1) (rr (if_neg c1) ?_)
        by_cases c2 : c = 2
        · refine rl (if_pos c2) (rr (if_pos c2) ?_)
          obtain ⟨r, r1, r2⟩ := hang_cnt hb ups (nI k) c 0 masks NN 0 0 (by omega) (by show b - 0 < 32768; omega)
          have e1 : f_X0_hangingOn (nI k) (nI b) ups = some r := by
            unfold f_X0_hangingOn
            rw [bnd_s, bnd_s]; exact r1
          refine rl (cal_e e1) (rr (bnd_s _ _) (rr r2 (rel_some rfl)))
        · exact rl (if_neg c2) (rr (if_neg c2) (rel_some rfl))
/-- whether a set is in one of the bags -/
theorem hold_n {n b : Nat} (hn : n ≤ 14) (hb : b ≤ 14) {masks : Nat → Int32} (hm : ∀ i, i < b → ∃ m, masks i = nI m ∧ m < 2 ^ n) {s : Nat} (hs : s < 16384) : ∃ r : Int32, f_X0_holdTogether (nI s) (nI b) masks = some r ∧ f_X9_inOne (nI s) (nI b) masks = some r ∧ ((r = 1 ∧ ∃ i, i < b ∧ ∀ l, s.testBit l = true → ((masks i).toNatClampNeg).testBit l = true) ∨ (r = 0 ∧ ∀ i, i < b → ¬ ∀ l, s.testBit l = true → ((masks i).toNatClampNeg).testBit l = true)) := by
  have h2n := p2n hn
  have hl : ∀ (f j : Nat), j ≤ b → b - j < f → (∀ i, i < j → ¬ ∀ l, s.testBit l = true → ((masks i).toNatClampNeg).testBit l = true) → ∃ r : Int32, L_X0_holdTogether_2 (nI s) (nI b) masks f (nI j) = some r ∧ L_X9_inOne_2 (nI s) (nI b) masks f (nI j) = some r ∧ ((r = 1 ∧ ∃ i, i < b ∧ ∀ l, s.testBit l = true → ((masks i).toNatClampNeg).testBit l = true) ∨ (r = 0 ∧ ∀ i, i < b → ¬ ∀ l, s.testBit l = true → ((masks i).toNatClampNeg).testBit l = true)) := by
    intro f
    induction f with
    | zero => intro j h1 h2; omega
    | succ f ih =>
      intro j hj hf hN
      rw [L_X0_holdTogether_2, L_X9_inOne_2]
      rcases Nat.lt_or_ge j b with h | h
      · obtain ⟨m, m1, m2⟩ := hm j h
        have hle := nd_le s m
        have hla : m &&& s ≤ s := Nat.and_le_right
        have k1 : (nI (nd s m) = 0) ↔ ∀ l, s.testBit l = true → m.testBit l = true := by
          show nI (nd s m) = nI 0 ↔ _
          rw [nI_eq (by omega) (by decide)]
          constructor
          · intro e l hl
            by_cases z : m.testBit l = true
            · exact z
            · have := (nd_t (a := s) (b := m) (i := l) (by omega)).mpr ⟨hl, bf z⟩
              rw [e, Nat.zero_testBit] at this; cases this
          · intro e
            apply Nat.eq_of_testBit_eq
            intro l
            rw [Nat.zero_testBit]
            refine bf fun z => ?_
            obtain ⟨z1, z2⟩ := (nd_t (by omega)).mp z
            rw [e l z1] at z2; cases z2
        have k2 : (nI (m &&& s) = nI s) ↔ ∀ l, s.testBit l = true → m.testBit l = true := by
          rw [nI_eq (by omega) (by omega)]
          constructor
          · intro e l hl
            rw [← e] at hl
            exact (and_t.mp hl).1
          · intro e
            apply Nat.eq_of_testBit_eq
            intro l
            rw [Bool.eq_iff_iff, and_t]
            exact ⟨fun z => z.2, fun z => ⟨e l z, z⟩⟩
        have ec : (masks j).toNatClampNeg = m := by rw [m1, nI_clamp (by omega)]
        rw [if_neg (nI_ge h (by omega)), if_neg (nI_ge h (by omega)), ld_ok _ (in14 (by omega)), ld_ok _ (in14 (by omega)), cl14 (by omega), m1, nx_nd, nx_and]
        by_cases c : ∀ l, s.testBit l = true → m.testBit l = true
        · rw [if_pos (k1.mpr c), if_pos (k2.mpr c)]
          exact ⟨1, rfl, rfl, Or.inl ⟨rfl, j, h, by rw [ec]; exact c⟩⟩
        · rw [if_neg (fun z => c (k1.mp z)), if_neg (fun z => c (k2.mp z)), bnd_s, bnd_s, nI_1]
          refine ih (j + 1) (by omega) (by omega) fun i hi => ?_
          by_cases e : i = j
          · subst e; rw [ec]; exact c
          · exact hN i (by omega)
      · rw [if_pos (nI_le h (by omega)), if_pos (nI_le h (by omega))]
        exact ⟨0, rfl, rfl, Or.inr ⟨rfl, fun i hi => hN i (by omega)⟩⟩
  unfold f_X0_holdTogether f_X9_inOne
  rw [bnd_s, bnd_s]
  exact hl NN 0 (by omega) (by show b - 0 < 32768; omega) (fun i hi => by omega)
/-- a bag is the topmost with k -/
def Top (ups masks : Nat → Int32) (k i : Nat) : Prop := (masks i).toNatClampNeg.testBit k = true ∧ (ups i = -1 ∨ ((masks (ups i).toNatClampNeg).toNatClampNeg.testBit k = false))
/-- there is a topmost bag above each -/
theorem top_ex {b : Nat} {ups masks : Nat → Int32} (hu : ∀ i, i < b → ups i = -1 ∨ ∃ u, ups i = nI u ∧ i < u ∧ u < b) (hb : b ≤ 14) {k : Nat} : ∀ (d i : Nat), b - i ≤ d → i < b → (masks i).toNatClampNeg.testBit k = true → ∃ j, j < b ∧ Top ups masks k j := by
  intro d
  induction d with
  | zero => intro i h1 h2; omega
  | succ d ih =>
    intro i h1 h2 h3
    rcases hu i h2 with z | ⟨u, u1, u2, u3⟩
    · exact ⟨i, h2, h3, Or.inl z⟩
    · by_cases c : (masks u).toNatClampNeg.testBit k = true
      · exact ih u (by omega) u3 c
      · refine ⟨i, h2, h3, Or.inr ?_⟩
        rw [u1, nI_clamp (by omega)]; exact bf c
/-- what ends in a bag -/
theorem ending_n {n b : Nat} (hn : n ≤ 14) (hb : b ≤ 14) {masks ups : Nat → Int32} (hm : ∀ i, i < b → ∃ m, masks i = nI m ∧ m < 2 ^ n) (hu : ∀ i, i < b → ups i = -1 ∨ ∃ u, ups i = nI u ∧ i < u ∧ u < b) {i : Nat} (hi : i < b) : ∃ e, e < 16384 ∧ f_X0_endingIn (nI i) (nI b) masks ups = some (nI e) ∧ ∀ k, e.testBit k = true ↔ Top ups masks k i := by
  have h2n := p2n hn
  obtain ⟨m, m1, m2⟩ := hm i hi
  have ec : (masks i).toNatClampNeg = m := by rw [m1, nI_clamp (by omega)]
  unfold f_X0_endingIn
  rw [ld_ok _ (in14 (by omega)), cl14 (by omega), bnd_s]
  rcases hu i hi with z | ⟨u, u1, u2, u3⟩
  · have e0 : f_X0_has (ups i) (nI b) = some 0 := by
      rw [z]; unfold f_X0_has; rw [if_pos (by decide)]
    refine ⟨m, by omega, ?_, fun k => ?_⟩
    · rw [cal_e e0, if_pos rfl, ld_ok _ (in14 (by omega)), cl14 (by omega), m1]
    · unfold Top
      rw [ec]
      exact ⟨fun w => ⟨w, Or.inl z⟩, fun w => w.1⟩
  · obtain ⟨q, q1, q2⟩ := hm u u3
    have e1 : f_X0_has (ups i) (nI b) = some 1 := by
      rw [u1]; unfold f_X0_has
      rw [if_neg (nI_pos (by omega)), if_neg (nI_ge u3 (by omega))]
    have hle := nd_le m q
    refine ⟨nd m q, by omega, ?_, fun k => ?_⟩
    · rw [cal_e e1, if_neg n10, ld_ok _ (in14 (by omega)), cl14 (by omega), m1, u1, ld_ok _ (in14 (by omega)), cl14 (by omega), q1, nx_nd]
    · unfold Top
      rw [ec, nd_t (by omega), u1, nI_clamp (by omega), q1, nI_clamp (by omega)]
      refine ⟨fun w => ⟨w.1, Or.inr w.2⟩, fun w => ⟨w.1, ?_⟩⟩
      rcases w.2 with v | v
      · exfalso
        have := congrArg Int32.toInt v
        rw [nI_toInt (by omega)] at this
        have l : (-1 : Int32).toInt = -1 := rfl
        omega
      · exact v
/-- whether two bags are topmost with k, or one -/
def Tw (ups masks : Nat → Int32) (b k : Nat) : Prop := ∃ i j, i < j ∧ j < b ∧ Top ups masks k i ∧ Top ups masks k j
theorem scat_n {n b : Nat} (hn : n ≤ 14) (hb : b ≤ 14) {masks ups : Nat → Int32} (hm : ∀ i, i < b → ∃ m, masks i = nI m ∧ m < 2 ^ n) (hu : ∀ i, i < b → ups i = -1 ∨ ∃ u, ups i = nI u ∧ i < u ∧ u < b) : ∃ ag, ag < 16384 ∧ f_X0_scatteredKnot (nI b) masks ups (nI n) = L_X0_scatteredKnot_45 (nI b) masks ups (nI n) NN (nI ag) (nI 0) ∧ ∀ k, ag.testBit k = true ↔ Tw ups masks b k := by
  have hl : ∀ (f j on ag : Nat), j ≤ b → b - j < f → on < 16384 → ag < 16384 → (∀ k, on.testBit k = true ↔ ∃ i, i < j ∧ Top ups masks k i) → (∀ k, ag.testBit k = true ↔ Tw ups masks j k) → ∃ ag', ag' < 16384 ∧ L_X0_scatteredKnot_7 (nI b) masks ups (nI n) f (nI on) (nI ag) (nI j) = L_X0_scatteredKnot_45 (nI b) masks ups (nI n) NN (nI ag') (nI 0) ∧ ∀ k, ag'.testBit k = true ↔ Tw ups masks b k := by
    intro f
    induction f with
    | zero => intro j on ag h1 h2; omega
    | succ f ih =>
      intro j on ag hj hf ho ha h1 h2
      rw [L_X0_scatteredKnot_7]
      rcases Nat.lt_or_ge j b with h | h
      · obtain ⟨e, e1, e2, e3⟩ := ending_n hn hb hm hu h
        have hle : on &&& e ≤ on := Nat.and_le_left
        rw [if_neg (nI_ge h (by omega)), cal_e e2, bnd_s, bnd_s, bnd_s, bnd_s, nI_1, nx_and, nx_or, nx_or]
        refine ih (j + 1) (on ||| e) (ag ||| (on &&& e)) (by omega) (by omega) (or_lt ho e1) (or_lt ha (by omega)) (fun k => ?_) (fun k => ?_)
        · rw [or_t, h1 k, e3 k]
          constructor
          · rintro (⟨i, i1, i2⟩ | z)
            · exact ⟨i, by omega, i2⟩
            · exact ⟨j, by omega, z⟩
          · rintro ⟨i, i1, i2⟩
            by_cases w : i = j
            · subst w; exact Or.inr i2
            · exact Or.inl ⟨i, by omega, i2⟩
        · rw [or_t, and_t, h1 k, e3 k, h2 k]
          constructor
          · rintro (⟨i, l, a1, a2, a3, a4⟩ | ⟨⟨i, i1, i2⟩, z⟩)
            · exact ⟨i, l, a1, by omega, a3, a4⟩
            · exact ⟨i, j, i1, by omega, i2, z⟩
          · rintro ⟨i, l, a1, a2, a3, a4⟩
            by_cases w : l = j
            · subst w; exact Or.inr ⟨⟨i, a1, a3⟩, a4⟩
            · exact Or.inl ⟨i, l, a1, by omega, a3, a4⟩
      · have e : j = b := by omega
        subst e
        rw [if_pos (nI_le (Nat.le_refl _) (by omega)), bnd_s]
        exact ⟨ag, ha, rfl, h2⟩
  unfold f_X0_scatteredKnot
  rw [bnd_s, bnd_s, bnd_s]
  exact hl NN 0 0 0 (by omega) (by show b - 0 < 32768; omega) (by decide) (by decide) (fun k => by
    rw [Nat.zero_testBit]
    exact ⟨fun z => absurd z (by decide), fun ⟨i, i1, _⟩ => by omega⟩) (fun k => by
    rw [Nat.zero_testBit]
    exact ⟨fun z => absurd z (by decide), fun ⟨i, l, _, a, _⟩ => by omega⟩)
/-- the reference counts the topmost bags of k -/
theorem l_s122 {n b : Nat} (hn : n ≤ 14) (hb : b ≤ 14) {masks ups near0 : Nat → Int32} (hm : ∀ i, i < b → ∃ m, masks i = nI m ∧ m < 2 ^ n) (hu : ∀ i, i < b → ups i = -1 ∨ ∃ u, ups i = nI u ∧ i < u ∧ u < b) {k : Nat} (hk : k < n) (kk : Int32 → Option Int32) : ∀ (f j c : Nat), j ≤ b → b - j < f → c ≤ j → (c = 0 ↔ ¬ ∃ i, i < j ∧ Top ups masks k i) → (2 ≤ c ↔ Tw ups masks j k) → ∃ c', (c' = 0 ↔ ¬ ∃ i, i < b ∧ Top ups masks k i) ∧ (2 ≤ c' ↔ Tw ups masks b k) ∧ L_X9_sound_122 (nI n) (nI b) near0 masks ups kk f (nI k) (nI c) (nI j) = if c' = 1 then kk (nI (k + 1)) else some ((2001 : Int32) + nI k) := by
  have h2n := p2n hn
  intro f
  induction f with
  | zero => intro j c h1 h2; omega
  | succ f ih =>
    intro j c hj hf hc h1 h2
    rw [L_X9_sound_122]
    rcases Nat.lt_or_ge j b with h | h
    · obtain ⟨m, m1, m2⟩ := hm j h
      have ec : (masks j).toNatClampNeg = m := by rw [m1, nI_clamp (by omega)]
      rw [if_neg (nI_ge h (by omega)), ld_ok _ (in14 (by omega)), cl14 (by omega), m1]
      have o2 : b - (j + 1) < f := by
        clear h1 h2
        omega
      have yes : Top ups masks k j → ∃ c', (c' = 0 ↔ ¬ ∃ i, i < b ∧ Top ups masks k i) ∧ (2 ≤ c' ↔ Tw ups masks b k) ∧ L_X9_sound_122 (nI n) (nI b) near0 masks ups kk f (nI k) (nI (c + 1)) (nI (j + 1)) = if c' = 1 then kk (nI (k + 1)) else some ((2001 : Int32) + nI k) := by
        intro ht
        refine ih (j + 1) (c + 1) h o2 (Nat.succ_le_succ hc) ⟨fun z => absurd z (Nat.succ_ne_zero c), fun z => absurd ⟨j, by omega, ht⟩ z⟩ ⟨fun z => ?_, fun ⟨i, l, a1, a2, a3, a4⟩ => ?_⟩
        · have hc1 : ¬ c = 0 := fun w => by subst w; exact absurd z (by decide)
          by_cases w : ∃ i, i < j ∧ Top ups masks k i
          · obtain ⟨i, i1, i2⟩ := w
            exact ⟨i, j, i1, by omega, i2, ht⟩
          · exact absurd (h1.mpr w) hc1
        · have hc1 : ¬ c = 0 := fun w => (h1.mp w) ⟨i, by omega, a3⟩
          exact Nat.succ_le_succ (Nat.pos_of_ne_zero hc1)
      have no : ¬ Top ups masks k j → ∃ c', (c' = 0 ↔ ¬ ∃ i, i < b ∧ Top ups masks k i) ∧ (2 ≤ c' ↔ Tw ups masks b k) ∧ L_X9_sound_122 (nI n) (nI b) near0 masks ups kk f (nI k) (nI c) (nI (j + 1)) = if c' = 1 then kk (nI (k + 1)) else some ((2001 : Int32) + nI k) := by
        intro ht
        refine ih (j + 1) c h o2 (Nat.le_succ_of_le hc) (h1.trans ⟨fun z ⟨i, i1, i2⟩ => ?_, fun z ⟨i, i1, i2⟩ => z ⟨i, by omega, i2⟩⟩) (h2.trans ⟨fun ⟨i, l, a1, a2, a3, a4⟩ => ⟨i, l, a1, by omega, a3, a4⟩, fun ⟨i, l, a1, a2, a3, a4⟩ => ?_⟩)
        · by_cases w : i = j
          · subst w; exact ht i2
          · exact z ⟨i, by omega, i2⟩
        · by_cases w : l = j
          · subst w; exact absurd a4 ht
          · exact ⟨i, l, a1, by omega, a3, a4⟩
      by_cases bk : m.testBit k = true
      · rw [if_pos ((nx_has1 (by omega) (by omega)).mpr bk), ld_ok _ (in14 (by omega)), cl14 (by omega)]
        rcases hu j h with z | ⟨u, u1, u2, u3⟩
        · rw [z, if_pos (by decide), bnd_s, bnd_s, nI_1, nI_1]
          exact yes ⟨by rw [ec]; exact bk, Or.inl z⟩
        · obtain ⟨q, q1, q2⟩ := hm u u3
          rw [u1, if_neg (nI_pos (by omega)), ld_ok _ (in14 (by omega)), cl14 (by omega), u1, ld_ok _ (in14 (by omega)), cl14 (by omega), q1]
          by_cases bq : q.testBit k = true
          · rw [if_neg (fun w => by rw [nx_has0 (by omega) (by omega), bq] at w; cases w), bnd_s, nI_1]
            refine no (fun ht => ?_)
            rcases ht.2 with v | v
            · rw [u1] at v
              have := congrArg Int32.toInt v
              rw [nI_toInt (by omega)] at this
              have l : (-1 : Int32).toInt = -1 := rfl
              omega
            · rw [u1, nI_clamp (by omega), q1, nI_clamp (by omega), bq] at v; cases v
          · rw [if_pos ((nx_has0 (by omega) (by omega)).mpr (bf bq)), bnd_s, bnd_s, nI_1, nI_1]
            exact yes ⟨by rw [ec]; exact bk, Or.inr (by rw [u1, nI_clamp (by omega), q1, nI_clamp (by omega)]; exact bf bq)⟩
      · rw [if_neg (fun w => bk ((nx_has1 (by omega) (by omega)).mp w)), bnd_s, nI_1]
        exact no (fun ht => bk (by rw [← ec]; exact ht.1))
    · have e : j = b := by omega
      subst e
      rw [if_pos (nI_le (Nat.le_refl _) (by omega))]
      refine ⟨c, h1, h2, ?_⟩
      by_cases w : c = 1
      · subst w
        rw [if_pos (show nI 1 = (1 : Int32) from rfl), if_pos rfl, bnd_s, nI_1]
      · rw [if_neg (show ¬ nI c = (1 : Int32) from fun q => w ((nI_eq (a := c) (b := 1) (by omega) (by decide)).mp q)), if_neg w]
/-- scattered knots, on both sides, when none is missing -/
theorem scat_both {n b : Nat} (hn : n ≤ 14) (hb : b ≤ 14) {masks ups near0 : Nat → Int32} (hm : ∀ i, i < b → ∃ m, masks i = nI m ∧ m < 2 ^ n) (hu : ∀ i, i < b → ups i = -1 ∨ ∃ u, ups i = nI u ∧ i < u ∧ u < b) {ag : Nat} (ha : ag < 16384) (hag : ∀ k, ag.testBit k = true ↔ Tw ups masks b k) (hall : ∀ k, k < n → ∃ i, i < b ∧ (masks i).toNatClampNeg.testBit k = true) : ∀ (f j : Nat), j ≤ n → n - j < f → ∃ r, L_X0_scatteredKnot_45 (nI b) masks ups (nI n) f (nI ag) (nI j) = some r ∧ L_X9_sound_110 (nI n) (nI b) near0 masks ups f (nI j) = some r := by
  intro f
  induction f with
  | zero => intro j h1 h2; omega
  | succ f ih =>
    intro j hj hf
    rw [L_X0_scatteredKnot_45, L_X9_sound_110]
    rcases Nat.lt_or_ge j n with h | h
    · obtain ⟨c', c1, c2, c3⟩ := l_s122 hn hb (near0 := near0) hm hu h (fun y0 => L_X9_sound_110 (nI n) (nI b) near0 masks ups f y0) NN 0 0 (by omega) (by show b - 0 < 32768; omega) (by omega) ⟨fun _ ⟨i, i1, _⟩ => by omega, fun _ => rfl⟩ ⟨fun z => by omega, fun ⟨i, l, _, a, _⟩ => by omega⟩
      rw [if_neg (nI_ge h (by omega)), if_neg (nI_ge h (by omega)), bnd_s (0 : Int32), bnd_s (0 : Int32)]
      have c4 : c' ≠ 0 := fun z => by
        obtain ⟨i, i1, i2⟩ := hall j h
        exact c1.mp z (top_ex hu hb b i (by omega) i1 i2)
      have e2 : L_X9_sound_122 (nI n) (nI b) near0 masks ups (fun y0 => L_X9_sound_110 (nI n) (nI b) near0 masks ups f y0) NN (nI j) 0 0 = if c' = 1 then L_X9_sound_110 (nI n) (nI b) near0 masks ups f (nI (j + 1)) else some ((2001 : Int32) + nI j) := c3
      rw [e2]
      by_cases b1 : ag.testBit j = true
      · have := c2.mpr ((hag j).mp b1)
        rw [cal_e (hasB1 ha (by omega) b1), if_neg n10, if_neg (by omega)]
        exact ⟨_, rfl, rfl⟩
      · have : c' = 1 := by
          have : ¬ 2 ≤ c' := fun z => b1 ((hag j).mpr (c2.mp z))
          omega
        rw [cal_e (hasB0 ha (by omega) (bf b1)), if_pos rfl, bnd_s, nI_1, if_pos this]
        exact ih (j + 1) (by omega) (by omega)
    · rw [if_pos (nI_le h (by omega)), if_pos (nI_le h (by omega))]
      exact ⟨0, rfl, rfl⟩
theorem nz1 {r : Int32} (h : 1 ≤ r.toInt) : ¬ r = 0 := fun z => by
  have := congrArg Int32.toInt z
  have l : (0 : Int32).toInt = 0 := rfl
  omega
theorem miss_both {n b : Nat} (hn : n ≤ 14) (hb : b ≤ 14) {masks ups near0 : Nat → Int32} (hm : ∀ i, i < b → ∃ m, masks i = nI m ∧ m < 2 ^ n) : ∀ (f j : Nat), j ≤ n → n - j < f → (∀ k, k < j → ∃ i, i < b ∧ (masks i).toNatClampNeg.testBit k = true) → (∃ r, ¬ r = 0 ∧ L_X0_missingKnot_2 (nI b) masks (nI n) f (nI j) = some r ∧ L_X9_sound_78 (nI n) (nI b) near0 masks ups f (nI j) = some r) ∨ (L_X0_missingKnot_2 (nI b) masks (nI n) f (nI j) = some 0 ∧ L_X9_sound_78 (nI n) (nI b) near0 masks ups f (nI j) = L_X9_sound_110 (nI n) (nI b) near0 masks ups NN 0 ∧ ∀ k, k < n → ∃ i, i < b ∧ (masks i).toNatClampNeg.testBit k = true) := by
  intro f
  induction f with
  | zero => intro j h1 h2; omega
  | succ f ih =>
    intro j hj hf hN
    rw [L_X0_missingKnot_2, L_X9_sound_78]
    rcases Nat.lt_or_ge j n with h | h
    · obtain ⟨r, r1, r2, r3⟩ := hold_n hn hb hm (pow_lt14 (k := j) (by omega))
      rw [if_neg (nI_ge h (by omega)), if_neg (nI_ge h (by omega)), nx_bit1 j (by omega), cal_e r1, cal_e r2]
      rcases r3 with ⟨rfl, i, i1, i2⟩ | ⟨rfl, _⟩
      · rw [if_neg n10, if_neg n10, bnd_s, bnd_s, nI_1]
        refine ih (j + 1) (by omega) (by omega) fun k hk => ?_
        by_cases e : k = j
        · subst e; exact ⟨i, i1, i2 k Nat.testBit_two_pow_self⟩
        · exact hN k (by omega)
      · rw [if_pos rfl, if_pos rfl]
        have e1 : (nI j).toInt = (j : Int) := nI_toInt (by omega)
        have l : (1001 : Int32).toInt = 1001 := rfl
        exact Or.inl ⟨_, nz1 (by rw [ti_add (by omega) (by omega)]; omega), rfl, rfl⟩
    · rw [if_pos (nI_le h (by omega)), if_pos (nI_le h (by omega)), bnd_s]
      exact Or.inr ⟨rfl, rfl, fun k hk => hN k (by omega)⟩
theorem loose_in {n b : Nat} (hn : n ≤ 14) (hb : b ≤ 14) {masks ups near0 : Nat → Int32} (hm : ∀ i, i < b → ∃ m, masks i = nI m ∧ m < 2 ^ n) {a : Nat} (ha : a < n) (kx ky : Int32 → Option Int32) : ∀ (f j : Nat), j ≤ n → n - j < f → (∃ r, ¬ r = 0 ∧ L_X0_looseEdge_14 (nI b) masks (nI n) near0 kx f (nI a) (nI j) = some r ∧ L_X9_sound_24 (nI n) (nI b) near0 masks ups ky f (nI a) (nI j) = some r) ∨ (L_X0_looseEdge_14 (nI b) masks (nI n) near0 kx f (nI a) (nI j) = kx (nI (a + 1)) ∧ L_X9_sound_24 (nI n) (nI b) near0 masks ups ky f (nI a) (nI j) = ky (nI (a + 1))) := by
  have hr : 0 ≤ (nI n).toInt ∧ (nI n).toInt ≤ 14 := by rw [nI_toInt (by omega)]; omega
  intro f
  induction f with
  | zero => intro j h1 h2; omega
  | succ f ih =>
    intro j hj hf
    rw [L_X0_looseEdge_14, L_X9_sound_24]
    rcases Nat.lt_or_ge j n with h | h
    · obtain ⟨u, hu, -⟩ := s_X4_joined (nI a) (nI j) (nI n) near0 hr
      rw [if_neg (nI_ge h (by omega)), if_neg (nI_ge h (by omega)), cal_e hu, cal_e ((edge9_eq _ _ _ _).trans hu)]
      by_cases z : u = 0
      · rw [if_pos z, if_pos z, bnd_s, bnd_s, nI_1]
        exact ih (j + 1) (by omega) (by omega)
      · obtain ⟨r, r1, r2, r3⟩ := hold_n hn hb hm (s := 2 ^ a ||| 2 ^ j) (or_lt (pow_lt14 (by omega)) (pow_lt14 (by omega)))
        rw [if_neg z, if_neg z, nx_bit1 a (by omega), nx_bit1 j (by omega), nx_or, cal_e r1, cal_e r2]
        rcases r3 with ⟨rfl, _⟩ | ⟨rfl, _⟩
        · rw [if_neg n10, if_neg n10, bnd_s, bnd_s, nI_1]
          exact ih (j + 1) (by omega) (by omega)
        · rw [if_pos rfl, if_pos rfl]
          have e1 : (nI j).toInt = (j : Int) := nI_toInt (by omega)
          have e2 : (nI a).toInt = (a : Int) := nI_toInt (by omega)
          have l1 : (1 : Int32).toInt = 1 := rfl
          have k1 : ((16 : Int32) * nI a).toInt = 16 * (nI a).toInt := ti_cmul rfl (by omega)
          have k2 : ((1 : Int32) + ((16 : Int32) * nI a)).toInt = (1 : Int32).toInt + ((16 : Int32) * nI a).toInt := ti_add (by omega) (by omega)
          exact Or.inl ⟨_, nz1 (by rw [ti_add (by omega) (by omega)]; omega), rfl, rfl⟩
    · rw [if_pos (nI_le h (by omega)), if_pos (nI_le h (by omega)), bnd_s, bnd_s, nI_1]
      exact Or.inr ⟨rfl, rfl⟩
theorem loose_both {n b : Nat} (hn : n ≤ 14) (hb : b ≤ 14) {masks ups near0 : Nat → Int32} (hm : ∀ i, i < b → ∃ m, masks i = nI m ∧ m < 2 ^ n) : ∀ (f j : Nat), j ≤ n → n - j < f → (∃ r, ¬ r = 0 ∧ L_X0_looseEdge_2 (nI b) masks (nI n) near0 f (nI j) = some r ∧ L_X9_sound_12 (nI n) (nI b) near0 masks ups f (nI j) = some r) ∨ (L_X0_looseEdge_2 (nI b) masks (nI n) near0 f (nI j) = some 0 ∧ L_X9_sound_12 (nI n) (nI b) near0 masks ups f (nI j) = L_X9_sound_78 (nI n) (nI b) near0 masks ups NN 0) := by
  intro f
  induction f with
  | zero => intro j h1 h2; omega
  | succ f ih =>
    intro j hj hf
    rw [L_X0_looseEdge_2, L_X9_sound_12]
    rcases Nat.lt_or_ge j n with h | h
    · rw [if_neg (nI_ge h (by omega)), if_neg (nI_ge h (by omega)), bnd_s, bnd_s, nI_1]
      rcases loose_in hn hb (ups := ups) (near0 := near0) hm h (fun y0 => L_X0_looseEdge_2 (nI b) masks (nI n) near0 f y0) (fun y0 => L_X9_sound_12 (nI n) (nI b) near0 masks ups f y0) NN (j + 1) (by omega) (by show n - (j + 1) < 32768; omega) with ⟨r, r1, r2, r3⟩ | ⟨r1, r2⟩
      · exact Or.inl ⟨r, r1, r2, r3⟩
      · rw [r1, r2]
        exact ih (j + 1) (by omega) (by omega)
    · rw [if_pos (nI_le h (by omega)), if_pos (nI_le h (by omega)), bnd_s]
      exact Or.inr ⟨rfl, rfl⟩
theorem fault_both {n b : Nat} (hn : n ≤ 14) (hb : b ≤ 14) {masks ups : Nat → Int32} (near0 : Nat → Int32) (hm : ∀ i, i < b → ∃ m, masks i = nI m ∧ m < 2 ^ n) (hu : ∀ i, i < b → ups i = -1 ∨ ∃ u, ups i = nI u ∧ i < u ∧ u < b) : ∃ r, f_X0_fault (nI b) masks ups (nI n) near0 = some r ∧ L_X9_sound_12 (nI n) (nI b) near0 masks ups NN (nI 0) = some r := by
  have nn : n - 0 < NN := by show n - 0 < 32768; omega
  have e0 : f_X0_looseEdge (nI b) masks (nI n) near0 = L_X0_looseEdge_2 (nI b) masks (nI n) near0 NN (nI 0) := by
    unfold f_X0_looseEdge; rw [bnd_s]; rfl
  have e1 : f_X0_missingKnot (nI b) masks (nI n) = L_X0_missingKnot_2 (nI b) masks (nI n) NN (nI 0) := by
    unfold f_X0_missingKnot; rw [bnd_s]; rfl
  unfold f_X0_fault
  rcases loose_both hn hb (ups := ups) (near0 := near0) hm NN 0 (by omega) nn with ⟨r, r1, r2, r3⟩ | ⟨r1, r2⟩
  · refine ⟨r, ?_, r3⟩
    rw [cal_e (e0.trans r2), bnd_s, if_neg r1]
    unfold J_X0_fault_16
    rw [if_neg r1]
  · rw [cal_e (e0.trans r1), bnd_s, if_pos rfl, r2]
    rcases miss_both hn hb (ups := ups) (near0 := near0) hm NN 0 (by omega) nn (fun k hk => by omega) with ⟨r, q1, q2, q3⟩ | ⟨q1, q2, q3⟩
    · refine ⟨r, ?_, q3⟩
      rw [cal_e (e1.trans q2), bnd_s]
      unfold J_X0_fault_16
      rw [if_neg q1]
    · obtain ⟨ag, a1, a2, a3⟩ := scat_n hn hb hm hu
      obtain ⟨r, s1, s2⟩ := scat_both hn hb (near0 := near0) hm hu a1 a3 q3 NN 0 (by omega) nn
      refine ⟨r, ?_, q2.trans s2⟩
      rw [cal_e (e1.trans q1), bnd_s]
      unfold J_X0_fault_16
      rw [if_pos rfl, cal_e (a2.trans s1), bnd_s]
theorem sound_rel {n : Nat} (hn : n ≤ 14) {bs tb : Int32} {masks ups bag up : Nat → Int32} (near0 : Nat → Int32) (T : BagT n bs tb masks ups bag up) : Rel (f_X8_sound (nI n) near0 bs masks ups) (f_X9_sound (nI n) tb near0 bag up) (fun x m => m = x) := by
  obtain ⟨rfl, rfl, rfl, b, hb, rfl, hm, hu⟩ := T
  unfold f_X8_sound f_X9_sound
  rcases Nat.eq_zero_or_pos b with z | z
  · subst z
    exact rl (if_pos (by decide)) (rr (if_pos (by decide)) (rel_some rfl))
  · obtain ⟨r, r1, r2⟩ := fault_both hn hb near0 hm hu
    exact rl (if_neg (nI_ne0 z (by omega))) (rr (if_neg (nI_ne0 z (by omega))) (rl (cal_e r1) (rr (bnd_s _ _) (rr r2 (rel_some rfl)))))
theorem isSound_n {n : Nat} (hn : n ≤ 14) {bs tb : Int32} {masks ups bag up : Nat → Int32} (near0 : Nat → Int32) (T : BagT n bs tb masks ups bag up) : (f_X8_isSound (nI n) near0 bs masks ups = some 0 ∧ (tb ≤ 0 ∨ (¬ tb ≤ 0 ∧ ¬ tb = 0 ∧ ∃ r, ¬ r = 0 ∧ f_X9_sound (nI n) tb near0 bag up = some r))) ∨ (f_X8_isSound (nI n) near0 bs masks ups = some 1 ∧ ¬ tb ≤ 0 ∧ ¬ tb = 0 ∧ f_X9_sound (nI n) tb near0 bag up = some 0) := by
  have S := sound_rel hn near0 T
  obtain ⟨rfl, rfl, rfl, b, hb, rfl, hm, hu⟩ := T
  unfold f_X8_isSound
  rcases Nat.eq_zero_or_pos b with z | z
  · subst z
    left
    exact ⟨if_pos (by decide), Or.inl (by decide)⟩
  · obtain ⟨r, r1, r2⟩ := fault_both hn hb near0 hm hu
    have n0 : ¬ nI b ≤ 0 := nI_nle z (by omega)
    have n1 : ¬ nI b = 0 := nI_ne0 z (by omega)
    have es : f_X9_sound (nI n) (nI b) near0 masks ups = some r := by
      unfold f_X9_sound
      rw [if_neg n1, bnd_s]; exact r2
    rw [if_neg n0, cal_e r1]
    by_cases c : r = 0
    · subst c
      right
      exact ⟨if_pos rfl, n0, n1, es⟩
    · left
      exact ⟨if_neg c, Or.inr ⟨n0, n1, r, c, es⟩⟩
