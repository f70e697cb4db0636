/-! separator. -/
def Cc (B : Nat → Nat) (W k T : Nat) : Prop := T.testBit k = true ∧ ∀ v, T.testBit v = true → ∀ i, (B v).testBit i = true → W.testBit i = true → T.testBit i = true
def IsC (B : Nat → Nat) (W k S : Nat) : Prop := Cc B W k S ∧ ∀ T, Cc B W k T → ∀ i, S.testBit i = true → T.testBit i = true
theorem tb_n {n m i : Nat} (hm : m < 2 ^ n) (h : m.testBit i = true) : i < n := by
  rcases Nat.lt_or_ge i n with q | q
  · exact q
  · rw [Nat.testBit_lt_two_pow (Nat.lt_of_lt_of_le hm (Nat.pow_le_pow_right (by decide) q))] at h; cases h
theorem l_r20 {n : Nat} {B : Nat → Nat} {near0 : Nat → Int32} (N : NetN n B near0) (a1 : Int32) {W known : Nat} (hk : known < 2 ^ n) (rd : Nat) (kk : Int32 → Int32 → Option Int32) : ∀ (f j next : Nat), j ≤ n → n - j < f → next < 2 ^ n → ∃ nx, nx < 2 ^ n ∧ (∀ i, nx.testBit i = true ↔ (next.testBit i = true ∨ ∃ v, j ≤ v ∧ v < n ∧ known.testBit v = true ∧ (B v).testBit i = true ∧ W.testBit i = true)) ∧ L_X4_reached_20 a1 (nI W) (nI n) near0 kk f (nI known) (nI rd) (nI next) (nI j) = if nx = known then some (nI known) else kk (nI nx) (nI (rd + 1)) := by
  have hn := N.1
  have hp := p2n hn
  intro f
  induction f with
  | zero => intro j next h1 h2; omega
  | succ f ih =>
    intro j next hj hf hx
    rw [L_X4_reached_20]
    rcases Nat.lt_or_ge j n with h | h
    · rw [if_neg (nI_ge h (by omega))]
      by_cases b : known.testBit j = true
      · have hle : B j &&& W ≤ B j := Nat.and_le_left
        have hBj := N.2.2.1 j
        rw [cal_e (hasB1 (by omega) (by omega) b), if_neg n10, ld_ok _ (in14 (by omega)), cl14 (by omega), N.2.1 j, nx_and, nx_or, bnd_s, bnd_s, nI_1]
        obtain ⟨nx, g1, g2, g3⟩ := ih (j + 1) (next ||| (B j &&& W)) (by omega) (by omega) (Nat.or_lt_two_pow hx (by omega))
        refine ⟨nx, g1, fun i => ?_, g3⟩
        rw [g2 i, or_t, and_t]
        constructor
        · rintro ((z | z) | ⟨v, z1, z2⟩)
          · exact Or.inl z
          · exact Or.inr ⟨j, Nat.le_refl _, h, b, z⟩
          · exact Or.inr ⟨v, by omega, z2⟩
        · rintro (z | ⟨v, z1, z2, z3, z4⟩)
          · exact Or.inl (Or.inl z)
          · by_cases e : v = j
            · subst e; exact Or.inl (Or.inr z4)
            · exact Or.inr ⟨v, by omega, z2, z3, z4⟩
      · rw [cal_e (hasB0 (by omega) (by omega) (bf b)), if_pos rfl, bnd_s, nI_1]
        obtain ⟨nx, g1, g2, g3⟩ := ih (j + 1) next (by omega) (by omega) hx
        refine ⟨nx, g1, fun i => ?_, g3⟩
        rw [g2 i]
        constructor
        · rintro (z | ⟨v, z1, z2⟩)
          · exact Or.inl z
          · exact Or.inr ⟨v, by omega, z2⟩
        · rintro (z | ⟨v, z1, z2, z3, z4⟩)
          · exact Or.inl z
          · by_cases e : v = j
            · subst e; exact absurd z3 b
            · exact Or.inr ⟨v, by omega, z2, z3, z4⟩
    · have e : j = n := by omega
      subst e
      rw [if_pos (nI_le (Nat.le_refl _) (by omega))]
      refine ⟨next, hx, fun i => ⟨Or.inl, ?_⟩, ?_⟩
      · rintro (z | ⟨v, z1, z2, _⟩)
        · exact z
        · omega
      · by_cases c : next = known
        · rw [if_pos c, if_pos (by rw [c])]
        · rw [if_neg c, if_neg (fun z => c ((nI_eq (by omega) (by omega)).mp z)), bnd_s, bnd_s, nI_1]
theorem pc_grow {a b : Nat} (ha : a < 16384) (hb : b < 16384) (h : ∀ i, a.testBit i = true → b.testBit i = true) (hne : b ≠ a) : pcN a + 1 ≤ pcN b := by
  have : ∃ i, b.testBit i = true ∧ a.testBit i = false := by
    by_cases hh : ∃ i, b.testBit i = true ∧ a.testBit i = false
    · exact hh
    · exfalso
      apply hne
      apply Nat.eq_of_testBit_eq
      intro i
      rw [Bool.eq_iff_iff]
      refine ⟨fun z => ?_, h i⟩
      by_cases c : a.testBit i = true
      · exact c
      · exact absurd ⟨i, z, bf c⟩ hh
  obtain ⟨i, i1, i2⟩ := this
  rw [← pcN_add (tb_lt hb i1) i2]
  refine pcN_mono fun l hl => ?_
  rcases or2_t.mp hl with z | z
  · exact h l z
  · subst z; exact i1
theorem l_r5 {n : Nat} {B : Nat → Nat} {near0 : Nat → Int32} (N : NetN n B near0) (a1 : Int32) {W k : Nat} : ∀ (f rd known : Nat), rd ≤ n → n - rd < f → known < 2 ^ n → known.testBit k = true → rd + 1 ≤ pcN known → (∀ T, Cc B W k T → ∀ i, known.testBit i = true → T.testBit i = true) → ∃ S, S < 2 ^ n ∧ L_X4_reached_5 a1 (nI W) (nI n) near0 f (nI known) (nI rd) = some (nI S) ∧ IsC B W k S := by
  have hn := N.1
  have hp := p2n hn
  intro f
  induction f with
  | zero => intro rd known h1 h2; omega
  | succ f ih =>
    intro rd known hr hf hk h1 h2 h3
    have hle := pcU_le2 hn hk
    rw [L_X4_reached_5, if_neg (nI_ge (by omega) (by omega)), bnd_s, bnd_s]
    obtain ⟨nx, g1, g2, g3⟩ := l_r20 N a1 (W := W) hk rd (fun y0 y1 => L_X4_reached_5 a1 (nI W) (nI n) near0 f y0 y1) NN 0 known (by omega) (by show n - 0 < 32768; omega) hk
    have g4 : L_X4_reached_20 a1 (nI W) (nI n) near0 (fun y0 y1 => L_X4_reached_5 a1 (nI W) (nI n) near0 f y0 y1) NN (nI known) (nI rd) (nI known) 0 = if nx = known then some (nI known) else L_X4_reached_5 a1 (nI W) (nI n) near0 f (nI nx) (nI (rd + 1)) := g3
    rw [g4]
    by_cases c : nx = known
    · rw [if_pos c]
      refine ⟨known, hk, rfl, ⟨h1, fun v hv i hb hw => ?_⟩, h3⟩
      rw [← c]
      exact (g2 i).mpr (Or.inr ⟨v, Nat.zero_le _, tb_n hk hv, hv, hb, hw⟩)
    · rw [if_neg c]
      have sub : ∀ i, known.testBit i = true → nx.testBit i = true := fun i hi => (g2 i).mpr (Or.inl hi)
      have hg := pc_grow (by omega) (by omega) sub c
      have hle2 := pcU_le2 hn g1
      refine ih (rd + 1) nx (by omega) (by omega) g1 (sub k h1) (by omega) fun T hT i hi => ?_
      rcases (g2 i).mp hi with z | ⟨v, _, _, z3, z4, z5⟩
      · exact h3 T hT i z
      · exact hT.2 v (h3 T hT v z3) i z4 z5
theorem reached_n {n : Nat} {B : Nat → Nat} {near0 : Nat → Int32} (N : NetN n B near0) {W k : Nat} (hk : k < n) : ∃ S, S < 2 ^ n ∧ f_X4_reached (nI (2 ^ k)) (nI W) (nI n) near0 = some (nI S) ∧ IsC B W k S := by
  have hn := N.1
  have hb : (2 ^ k).testBit k = true := Nat.testBit_two_pow_self
  have hlt : 2 ^ k < 2 ^ n := Nat.pow_lt_pow_right (by decide) hk
  have hp := p2n hn
  unfold f_X4_reached
  rw [bnd_s, bnd_s]
  exact l_r5 N (nI (2 ^ k)) NN 0 (2 ^ k) (by omega) (by show n - 0 < 32768; omega) hlt hb (pc_one (by omega) (by omega) hb) fun T hT i hi => by
    rw [Nat.testBit_two_pow, decide_eq_true_iff] at hi
    subst hi; exact hT.1
/-! the reference's parts -/
theorem and_compl (k x : Nat) (h : x < 2 ^ k) : x &&& (2 ^ k - (x + 1)) = 0 := by
  apply Nat.eq_of_testBit_eq
  intro i
  rw [Nat.testBit_and, Nat.testBit_two_pow_sub_succ h, Nat.zero_testBit]
  cases x.testBit i <;> simp
theorem low_eq (k : Nat) : ∀ m j, m < 2 ^ k → m.testBit j = true → (∀ i, i < j → m.testBit i = false) → m &&& (2 ^ k - m) = 2 ^ j := by
  induction k with
  | zero =>
    intro m j h hj _
    have : m = 0 := by simp at h; exact h
    subst this
    rw [Nat.zero_testBit] at hj; cases hj
  | succ k ih =>
    intro m j h hj hl
    have hp : 2 ^ (k + 1) = 2 * 2 ^ k := by rw [Nat.pow_succ]; omega
    have key : ∀ c, (m &&& (2 ^ (k + 1) - m)) = 2 * ((m / 2) &&& ((2 ^ (k + 1) - m) / 2)) + c → c < 2 → (m &&& (2 ^ (k + 1) - m)) = 2 * ((m / 2) &&& ((2 ^ (k + 1) - m) / 2)) + c := fun c e _ => e
    have dm := Nat.div_add_mod (m &&& (2 ^ (k + 1) - m)) 2
    rw [Nat.and_div_two] at dm
    have mo : (m &&& (2 ^ (k + 1) - m)) % 2 = if m % 2 = 1 ∧ (2 ^ (k + 1) - m) % 2 = 1 then 1 else 0 := by
      have t : (m &&& (2 ^ (k + 1) - m)).testBit 0 = (m.testBit 0 && (2 ^ (k + 1) - m).testBit 0) := Nat.testBit_and _ _ _
      rw [tb0, tb0, tb0] at t
      rcases Nat.mod_two_eq_zero_or_one (m &&& (2 ^ (k + 1) - m)) with a | a <;> rcases Nat.mod_two_eq_zero_or_one m with b | b <;> rcases Nat.mod_two_eq_zero_or_one (2 ^ (k + 1) - m) with c | c <;> simp [a, b, c] at t ⊢
    rcases Nat.mod_two_eq_zero_or_one m with h2 | h2
    · have j0 : j ≠ 0 := fun z => by
        subst z
        rw [tb0, h2] at hj; simp at hj
      obtain ⟨j', rfl⟩ := Nat.exists_eq_succ_of_ne_zero j0
      have e1 : (2 ^ (k + 1) - m) / 2 = 2 ^ k - m / 2 := by omega
      have r := ih (m / 2) j' (by omega) (by rw [← tb_succ]; exact hj) (fun i hi => by rw [← tb_succ]; exact hl (i + 1) (by omega))
      rw [e1, r] at dm
      rw [if_neg (by omega)] at mo
      have hp2 : 2 ^ (j' + 1) = 2 * 2 ^ j' := by rw [Nat.pow_succ]; omega
      show _ = 2 ^ (j' + 1)
      omega
    · have j0 : j = 0 := by
        rcases Nat.eq_zero_or_pos j with z | z
        · exact z
        · have := hl 0 z
          rw [tb0, h2] at this; simp at this
      subst j0
      have e1 : (2 ^ (k + 1) - m) / 2 = 2 ^ k - (m / 2 + 1) := by omega
      have e2 : (2 ^ (k + 1) - m) % 2 = 1 := by omega
      rw [e1, and_compl k (m / 2) (by omega)] at dm
      rw [if_pos ⟨h2, e2⟩] at mo
      show _ = 1
      omega
theorem l_s70 {n : Nat} {B : Nat → Nat} {near0 : Nat → Int32} (N : NetN n B near0) (tb x1 x3 : Int32) (bag up : Nat → Int32) {left was : Nat} (hw : was < 2 ^ n) (kk : Int32 → Int32 → Int32 → Int32 → Int32 → Option Int32) : ∀ (f j part : Nat), j ≤ n → n - j < f → part < 2 ^ n → ∃ pt, pt < 2 ^ n ∧ (∀ i, pt.testBit i = true ↔ (part.testBit i = true ∨ ∃ v, j ≤ v ∧ v < n ∧ was.testBit v = true ∧ (B v).testBit i = true ∧ left.testBit i = true)) ∧ L_X9_separator_70 (nI n) tb near0 bag up kk f x1 (nI left) x3 (nI part) (nI was) (nI j) = kk x1 (nI left) x3 (nI pt) (nI was) := by
  have hn := N.1
  have hp := p2n hn
  intro f
  induction f with
  | zero => intro j part h1 h2; omega
  | succ f ih =>
    intro j part hj hf hx
    rw [L_X9_separator_70]
    rcases Nat.lt_or_ge j n with h | h
    · rw [if_neg (nI_ge h (by omega))]
      by_cases b : was.testBit j = true
      · have hle : B j &&& left ≤ B j := Nat.and_le_left
        have hBj := N.2.2.1 j
        rw [if_pos ((nx_has1 (by omega) (by omega)).mpr b), ld_ok _ (in14 (by omega)), cl14 (by omega), N.2.1 j, nx_and, nx_or, bnd_s, bnd_s, nI_1]
        obtain ⟨nx, g1, g2, g3⟩ := ih (j + 1) (part ||| (B j &&& left)) (by omega) (by omega) (Nat.or_lt_two_pow hx (by omega))
        refine ⟨nx, g1, fun i => ?_, g3⟩
        rw [g2 i, or_t, and_t]
        constructor
        · rintro ((z | z) | ⟨v, z1, z2⟩)
          · exact Or.inl z
          · exact Or.inr ⟨j, Nat.le_refl _, h, b, z⟩
          · exact Or.inr ⟨v, by omega, z2⟩
        · rintro (z | ⟨v, z1, z2, z3, z4⟩)
          · exact Or.inl (Or.inl z)
          · by_cases e : v = j
            · subst e; exact Or.inl (Or.inr z4)
            · exact Or.inr ⟨v, by omega, z2, z3, z4⟩
      · rw [if_neg (fun z => b ((nx_has1 (by omega) (by omega)).mp z)), bnd_s, nI_1]
        obtain ⟨nx, g1, g2, g3⟩ := ih (j + 1) part (by omega) (by omega) hx
        refine ⟨nx, g1, fun i => ?_, g3⟩
        rw [g2 i]
        constructor
        · rintro (z | ⟨v, z1, z2⟩)
          · exact Or.inl z
          · exact Or.inr ⟨v, by omega, z2⟩
        · rintro (z | ⟨v, z1, z2, z3, z4⟩)
          · exact Or.inl z
          · by_cases e : v = j
            · subst e; exact absurd z3 b
            · exact Or.inr ⟨v, by omega, z2, z3, z4⟩
    · have e : j = n := by omega
      subst e
      rw [if_pos (nI_le (Nat.le_refl _) (by omega))]
      refine ⟨part, hx, fun i => ⟨Or.inl, ?_⟩, rfl⟩
      rintro (z | ⟨v, z1, z2, _⟩)
      · exact z
      · omega
theorem l_s56 {n : Nat} {B : Nat → Nat} {near0 : Nat → Int32} (N : NetN n B near0) (tb x1 : Int32) (bag up : Nat → Int32) {left k g : Nat} (hg : g ≤ 1) (kk : Int32 → Int32 → Int32 → Option Int32) : ∀ (f part was : Nat), 16384 - was < f → part < 2 ^ n → was < 2 ^ n → part.testBit k = true → (∀ i, was.testBit i = true → part.testBit i = true) → (∀ v, was.testBit v = true → ∀ i, (B v).testBit i = true → left.testBit i = true → part.testBit i = true) → (∀ T, Cc B left k T → ∀ i, part.testBit i = true → T.testBit i = true) → ∃ S, S < 2 ^ n ∧ IsC B left k S ∧ L_X9_separator_56 (nI n) tb near0 bag up kk f x1 (nI left) (nI g) (nI part) (nI was) = kk x1 (nI (nd left S)) (nI (if g = 1 ∧ pcN S ≤ n / 2 then 1 else 0)) := by
  have hn := N.1
  have hp := p2n hn
  intro f
  induction f with
  | zero => intro part was h1; omega
  | succ f ih =>
    intro part was hf h1 h2 h3 h4 h5 h6
    rw [L_X9_separator_56]
    by_cases c : part = was
    · subst c
      rw [if_pos rfl]
      refine ⟨part, h1, ⟨⟨h3, h5⟩, h6⟩, ?_⟩
      have eJ : J_X9_separator_136 (nI n) tb near0 bag up kk x1 (nI left) (nI part) = kk x1 (nI (nd left part)) (nI 0) := by
        unfold J_X9_separator_136
        rw [bnd_s, bnd_s, nx_nd]; rfl
      have hpc := pcN_le part
      rcases (show g = 0 ∨ g = 1 by omega) with z | z
      · subst z
        rw [if_pos (show nI 0 = (0 : Int32) from rfl), eJ, if_neg (fun w => absurd w.1 (by decide))]
      · subst z
        rw [if_neg (show ¬ nI 1 = (0 : Int32) by decide), cal_e (bits_n (Nat.lt_of_lt_of_le h1 hp)), show nI n / (2 : Int32) = nI (n / 2) from pk_div (d := 2) (by omega) (by decide) (by decide)]
        rcases Nat.lt_or_ge (n / 2) (pcN part) with w | w
        · rw [if_pos (nI_lt w (by omega)), eJ, if_neg (fun q => by omega)]
        · rw [if_neg (nI_nlt w (by omega)), bnd_s, bnd_s, nx_nd, if_pos ⟨rfl, w⟩]; rfl
    · rw [if_neg (fun z => c ((nI_eq (by omega) (by omega)).mp z)), bnd_s, bnd_s]
      obtain ⟨pt, g1, g2, g3⟩ := l_s70 N tb x1 (nI g) bag up (left := left) h1 (fun y0 y1 y2 y3 y4 => L_X9_separator_56 (nI n) tb near0 bag up kk f y0 y1 y2 y3 y4) NN 0 part (by omega) (by show n - 0 < 32768; omega) h1
      have hlt : was < part := by
        have h7 : was ≤ part := Nat.le_of_testBit fun i hi => h4 i hi
        omega
      obtain ⟨S, s1, s2, s3⟩ := ih pt part (by omega) g1 h1 ((g2 k).mpr (Or.inl h3)) (fun i hi => (g2 i).mpr (Or.inl hi)) (fun v hv i hb hl => (g2 i).mpr (Or.inr ⟨v, Nat.zero_le _, tb_n h1 hv, hv, hb, hl⟩)) (fun T hT i hi => by
        rcases (g2 i).mp hi with z | ⟨v, _, _, z3, z4, z5⟩
        · exact h6 T hT i z
        · exact hT.2 v (h6 T hT v z3) i z4 z5)
      exact ⟨S, s1, s2, g3.trans s3⟩
theorem C_eq {n : Nat} {B : Nat → Nat} {near0 : Nat → Int32} (N : NetN n B near0) {W left k S S' : Nat} (hlW : ∀ i, left.testBit i = true → W.testBit i = true) (hcl : ∀ v, left.testBit v = true → ∀ i, (B v).testBit i = true → W.testBit i = true → left.testBit i = true) (hk : left.testBit k = true) (h : IsC B W k S) (h' : IsC B left k S') : S = S' := by
  have hsub : ∀ i, S'.testBit i = true → left.testBit i = true := h'.2 left ⟨hk, fun v hv i hb hl => hl⟩
  have c1 : Cc B W k S' := ⟨h'.1.1, fun v hv i hb hw => h'.1.2 v hv i hb (hcl v (hsub v hv) i hb hw)⟩
  have c2 : Cc B left k S := ⟨h.1.1, fun v hv i hb hl => h.1.2 v hv i hb (hlW i hl)⟩
  apply Nat.eq_of_testBit_eq
  intro i
  rw [Bool.eq_iff_iff]
  exact ⟨h.2 S' c1 i, h'.2 S c2 i⟩
/-- both sides go through the parts -/
theorem parts_both {n : Nat} {B : Nat → Nat} {near0 : Nat → Int32} (N : NetN n B near0) (tb x1 : Int32) (bag up : Nat → Int32) {W : Nat} (hW : W < 2 ^ n) (kk : Int32 → Option Int32) : ∀ (d j left most g fx fy : Nat), j + d = n → d < fx → pcN left < fy → left < 2 ^ n → (∀ i, i < j → left.testBit i = false) → (∀ i, left.testBit i = true → W.testBit i = true) → (∀ v, left.testBit v = true → ∀ i, (B v).testBit i = true → W.testBit i = true → left.testBit i = true) → most ≤ 14 → g ≤ 1 → (g = 1 ↔ most ≤ n / 2) → ∃ M g', M ≤ 14 ∧ (g' = 1 ↔ M ≤ n / 2) ∧ g' ≤ 1 ∧ L_X4_largestPart_7 (nI W) (nI n) near0 fx (nI left) (nI most) (nI j) = some (nI M) ∧ L_X9_separator_43 (nI n) tb near0 bag up kk fy x1 (nI left) (nI g) = if g' = 1 then some x1 else kk (x1 + 1) := by
  have hn := N.1
  have hp := p2n hn
  intro d
  induction d with
  | zero =>
    intro j left most g fx fy hj hx hy hl h1 h2 h3 h4 h5 h6
    obtain ⟨fx, rfl⟩ := Nat.exists_eq_succ_of_ne_zero (show fx ≠ 0 by omega)
    obtain ⟨fy, rfl⟩ := Nat.exists_eq_succ_of_ne_zero (show fy ≠ 0 by omega)
    have e0 : left = 0 := by
      apply Nat.eq_of_testBit_eq
      intro i
      rw [Nat.zero_testBit]
      refine bf fun z => ?_
      rw [h1 i (by have := tb_n hl z; omega)] at z; cases z
    subst e0
    refine ⟨most, g, h4, h6, h5, ?_, ?_⟩
    · rw [L_X4_largestPart_7, if_pos (nI_le (by omega) (by omega))]
    · rw [L_X9_separator_43, if_pos (show nI 0 = (0 : Int32) from rfl)]
      rcases (show g = 0 ∨ g = 1 by omega) with z | z
      · subst z
        rw [if_pos (show nI 0 = (0 : Int32) from rfl), if_neg (by decide), bnd_s]
      · subst z
        rw [if_neg (show ¬ nI 1 = (0 : Int32) by decide), if_pos rfl]
  | succ d ih =>
    intro j left most g fx fy hj hx hy hl h1 h2 h3 h4 h5 h6
    obtain ⟨fx, rfl⟩ := Nat.exists_eq_succ_of_ne_zero (show fx ≠ 0 by omega)
    by_cases b : left.testBit j = true
    · obtain ⟨fy, rfl⟩ := Nat.exists_eq_succ_of_ne_zero (show fy ≠ 0 by omega)
      obtain ⟨S, s1, s2, s3⟩ := reached_n N (W := W) (show j < n by omega)
      have hpos : 0 < left := by
        rcases Nat.eq_zero_or_pos left with z | z
        · subst z; rw [Nat.zero_testBit] at b; cases b
        · exact z
      have elow : nI left &&& (-(nI left)) = nI (2 ^ j) := by
        rw [nx_neg hpos (by omega), nx_and, low_eq 32 left j (by omega) b h1]
      obtain ⟨S', t1, t2, t3⟩ := l_s56 N tb x1 bag up (left := left) (k := j) h5 (fun y0 y1 y2 => L_X9_separator_43 (nI n) tb near0 bag up kk fy y0 y1 y2) NN (2 ^ j) 0 (by show 16384 - 0 < 32768; decide) (Nat.pow_lt_pow_right (by decide) (by omega)) (Nat.two_pow_pos n) Nat.testBit_two_pow_self (fun i hi => by rw [Nat.zero_testBit] at hi; cases hi) (fun v hv => by rw [Nat.zero_testBit] at hv; cases hv) (fun T hT i hi => by
        rw [Nat.testBit_two_pow, decide_eq_true_iff] at hi
        subst hi; exact hT.1)
      have eS := C_eq N h2 h3 b s3 t2
      subst eS
      have hpS := pcN_le S
      have hSl : ∀ i, S.testBit i = true → left.testBit i = true := t2.2 left ⟨b, fun v hv i hb hl => hl⟩
      have hnl : nd left S < 2 ^ n := Nat.lt_of_le_of_lt (nd_le _ _) hl
      have hdec : pcN (nd left S) + 1 ≤ pcN left := by
        refine pc_grow (by omega) (by omega) (fun i hi => ((nd_t (by omega)).mp hi).1) fun z => ?_
        have := (nd_t (a := left) (b := S) (i := j) (by omega)).mp (by rw [← z]; exact b)
        rw [s3.1.1] at this
        exact absurd this.2 (by decide)
      have emx : (if nI most < nI (pcN S) then nI (pcN S) else nI most) = nI (if most < pcN S then pcN S else most) := by
        rcases Nat.lt_or_ge most (pcN S) with c | c
        · rw [if_pos (nI_lt c (by omega)), if_pos c]
        · rw [if_neg (nI_nlt c (by omega)), if_neg (by omega)]
      obtain ⟨M, g', m1, m2, m3, m4, m5⟩ := ih (j + 1) (nd left S) (if most < pcN S then pcN S else most) (if g = 1 ∧ pcN S ≤ n / 2 then 1 else 0) fx fy (by omega) (by omega) (by omega) hnl (fun i hi => by
        refine bf fun z => ?_
        obtain ⟨z1, z2⟩ := (nd_t (by omega)).mp z
        by_cases e : i = j
        · subst e
          rw [s3.1.1] at z2; cases z2
        · rw [h1 i (by omega)] at z1; cases z1) (fun i hi => h2 i ((nd_t (by omega)).mp hi).1) (fun v hv i hb hw => by
        obtain ⟨v1, v2⟩ := (nd_t (by omega)).mp hv
        refine (nd_t (by omega)).mpr ⟨h3 v v1 i hb hw, bf fun z => ?_⟩
        have := s3.1.2 i z v (N.2.2.2.2.2 _ _ hb) (h2 v v1)
        rw [v2] at this; cases this) (by split <;> omega) (by split <;> omega) (by
        by_cases c : g = 1 ∧ pcN S ≤ n / 2
        · rw [if_pos c]
          refine ⟨fun _ => ?_, fun _ => rfl⟩
          have := h6.mp c.1
          split <;> omega
        · rw [if_neg c]
          refine ⟨fun z => absurd z (by decide), fun z => absurd ⟨h6.mpr ?_, ?_⟩ c⟩
          · split at z <;> omega
          · split at z <;> omega)
      refine ⟨M, g', m1, m2, m3, ?_, ?_⟩
      · rw [L_X4_largestPart_7, if_neg (nI_ge (by omega) (by omega)), cal_e (hasB1 (by omega) (by omega) b), if_neg n10, nx_bit1 j (by omega), cal_e s2, bnd_s, cal_e (bitCount_n (Nat.lt_of_lt_of_le s1 hp)), bnd_s, bnd_s, bnd_s, nI_1, nx_nd, emx]
        exact m4
      · rw [L_X9_separator_43, if_neg (nI_ne0 hpos (by omega)), bnd_s, bnd_s, elow]
        exact t3.trans m5
    · obtain ⟨M, g', m1, m2, m3, m4, m5⟩ := ih (j + 1) left most g fx fy (by omega) (by omega) hy hl (fun i hi => by
        by_cases e : i = j
        · subst e; exact bf b
        · exact h1 i (by omega)) h2 h3 h4 h5 h6
      refine ⟨M, g', m1, m2, m3, ?_, m5⟩
      rw [L_X4_largestPart_7, if_neg (nI_ge (by omega) (by omega)), cal_e (hasB0 (by omega) (by omega) (bf b)), if_pos rfl, bnd_s, nI_1]
      exact m4
theorem sep_loop {n : Nat} {B : Nat → Nat} {near0 : Nat → Int32} (N : NetN n B near0) {b : Nat} (hb : b ≤ 14) {masks : Nat → Int32} (ups : Nat → Int32) (hm : ∀ i, i < b → ∃ m, masks i = nI m ∧ m < 2 ^ n) : ∀ (f j : Nat), j ≤ b → b - j < f → ∃ r, L_X8_separator_12 (nI n) near0 (nI b) masks ups f (nI j) = some r ∧ L_X9_separator_19 (nI n) (nI b) near0 masks ups f (nI j) = some r := by
  have hn := N.1
  have hp := p2n hn
  have hq : 0 < 2 ^ n := Nat.two_pow_pos n
  have ea : f_X4_everyKnot (nI n) = some (nI (2 ^ n - 1)) := by unfold f_X4_everyKnot; rw [all_v hn]
  intro f
  induction f with
  | zero => intro j h1 h2; omega
  | succ f ih =>
    intro j hj hf
    rw [L_X8_separator_12, L_X9_separator_19]
    rcases Nat.lt_or_ge j b with h | h
    · obtain ⟨m, m1, m2⟩ := hm j h
      have hWl := nd_le (2 ^ n - 1) m
      obtain ⟨M, g', k1, k2, k3, k4, k5⟩ := parts_both N (nI b) (nI j) masks ups (W := nd (2 ^ n - 1) m) (by omega) (fun y0 => L_X9_separator_19 (nI n) (nI b) near0 masks ups f y0) n 0 (nd (2 ^ n - 1) m) 0 1 NN NN (by omega) (by show n < 32768; omega) (by have := pcN_le (nd (2 ^ n - 1) m); show _ < 32768; omega) (by omega) (fun i hi => by omega) (fun i hi => hi) (fun v _ i _ hw => hw) (by omega) (by omega) ⟨fun _ => Nat.zero_le _, fun _ => rfl⟩
      have e1 : f_X4_largestPart (nI (nd (2 ^ n - 1) m)) (nI n) near0 = some (nI M) := by
        unfold f_X4_largestPart
        rw [bnd_s, bnd_s, bnd_s]
        exact k4
      rw [if_neg (nI_ge h (by omega)), if_neg (nI_ge h (by omega)), cal_e ea, cal_e (show f_X9_all (nI n) = some (nI (2 ^ n - 1)) from ea), ld_ok _ (in14 (by omega)), ld_ok _ (in14 (by omega)), cl14 (by omega), m1, nx_nd, cal_e e1, bnd_s (nI (nd (2 ^ n - 1) m)), bnd_s (1 : Int32), show nI n / (2 : Int32) = nI (n / 2) from pk_div (d := 2) (by omega) (by decide) (by decide)]
      have k6 : L_X9_separator_43 (nI n) (nI b) near0 masks ups (fun y0 => L_X9_separator_19 (nI n) (nI b) near0 masks ups f y0) NN (nI j) (nI (nd (2 ^ n - 1) m)) 1 = if g' = 1 then some (nI j) else L_X9_separator_19 (nI n) (nI b) near0 masks ups f (nI j + 1) := k5
      rw [k6]
      rcases Nat.lt_or_ge (n / 2) M with c | c
      · rw [if_pos (nI_lt c (by omega)), if_neg (fun z => by have := k2.mp z; omega), bnd_s, nI_1]
        exact ih (j + 1) (by omega) (by omega)
      · rw [if_neg (nI_nlt c (by omega)), if_pos (k2.mpr c)]
        exact ⟨nI j, rfl, rfl⟩
    · rw [if_pos (nI_le h (by omega)), if_pos (nI_le h (by omega))]
      exact ⟨-1, rfl, rfl⟩
theorem sep_rel {n : Nat} {near0 : Nat → Int32} {edges : Int32} (H : NetE n near0 edges) {bs tb : Int32} {masks ups bag up : Nat → Int32} (T : BagT n bs tb masks ups bag up) : Rel (f_X8_separator (nI n) near0 bs masks ups) (f_X9_separator (nI n) tb near0 bag up) (fun x m => m = x) := by
  obtain ⟨B, c, N, _, _⟩ := H
  have hn := N.1
  have S := isSound_n hn near0 T
  obtain ⟨rfl, rfl, rfl, b, hb, rfl, hm, hu⟩ := T
  have l0 : (0 : Int32).toInt = 0 := rfl
  unfold f_X8_separator f_X9_separator
  rcases S with ⟨s1, s2⟩ | ⟨s1, s2, s3, s4⟩
  · refine rl (cal_e s1) (rl (if_pos rfl) ?_)
    rcases s2 with z | ⟨z1, z2, r, z3, z4⟩
    · have e0 : nI b = 0 := by
        rcases Nat.eq_zero_or_pos b with w | w
        · subst w; rfl
        · exact absurd z (nI_nle w (by omega))
      exact rr (if_pos e0) (rel_some rfl)
    · exact rr (if_neg z2) (rr (cal_e z4) (rr (if_neg z3) (rel_some rfl)))
  · obtain ⟨r, r1, r2⟩ := sep_loop N hb ups hm NN 0 (by omega) (by show b - 0 < 32768; omega)
    exact rl (cal_e s1) (rl (if_neg n10) (rr (if_neg s3) (rr (cal_e s4) (rr (if_pos rfl) (rl (bnd_s _ _) (rr (bnd_s _ _) (rl r1 (rr r2 (rel_some rfl)))))))))
