theorem pcN_le (m : Nat) : pcN m ≤ 14 := pcU_le 14 m
/-! ranges of masks -/
theorem mk_of {x : Int32} {hi : Int} (h : 0 ≤ x.toInt ∧ x.toInt ≤ hi) : ∃ m : Nat, (m : Int) ≤ hi ∧ m < 2 ^ 31 ∧ x = nI m ∧ x.toNatClampNeg = m := by
  have ha : ¬ x < 0 := fun hh => by
    have := plt hh
    have e0 : (0 : Int32).toInt = 0 := rfl
    omega
  obtain ⟨m, hm, rfl⟩ := nI_of ha
  rw [nI_toInt hm] at h
  exact ⟨m, h.2, hm, rfl, nI_clamp hm⟩
theorem mk_rg {m : Nat} (h : m < 16384) : 0 ≤ (nI m).toInt ∧ (nI m).toInt ≤ 16383 := by
  rw [nI_toInt (by omega)]; omega
theorem or_lt {a b : Nat} (ha : a < 16384) (hb : b < 16384) : a ||| b < 16384 := Nat.or_lt_two_pow (n := 14) ha hb
theorem or_rg {a b : Int32} (ha : 0 ≤ a.toInt ∧ a.toInt ≤ 16383) (hb : 0 ≤ b.toInt ∧ b.toInt ≤ 16383) : 0 ≤ (a ||| b).toInt ∧ (a ||| b).toInt ≤ 16383 := by
  obtain ⟨m, h1, _, rfl, _⟩ := mk_of ha
  obtain ⟨k, h2, _, rfl, _⟩ := mk_of hb
  rw [nx_or]
  exact mk_rg (or_lt (by omega) (by omega))
theorem pow_lt14 {k : Nat} (h : k < 14) : 2 ^ k < 16384 := Nat.pow_lt_pow_right (by decide) h
theorem shl_rg {k : Int32} (h : 0 ≤ k.toInt ∧ k.toInt ≤ 13) : 0 ≤ ((1 : Int32) <<< (k &&& 31)).toInt ∧ ((1 : Int32) <<< (k &&& 31)).toInt ≤ 16383 := by
  obtain ⟨m, h1, _, rfl, _⟩ := mk_of h
  rw [nx_bit1 m (by omega)]
  exact mk_rg (pow_lt14 (by omega))
theorem anl_rg {a b : Int32} (h : 0 ≤ a.toInt ∧ a.toInt ≤ 16383) : 0 ≤ (a &&& b).toInt ∧ (a &&& b).toInt ≤ 16383 := and_rg rfl h
theorem anr_rg {a b : Int32} (h : 0 ≤ b.toInt ∧ b.toInt ≤ 16383) : 0 ≤ (a &&& b).toInt ∧ (a &&& b).toInt ≤ 16383 := and_rg2 rfl h
/-! the reference's bits -/
theorem l_bits (a1 : Int32) : ∀ (n c m : Nat), m < 16384 → m < n → L_X9_bits_4 a1 n (nI c) (nI m) = some (nI (c + pcN m)) := by
  intro n
  induction n with
  | zero => intro c m _ h; omega
  | succ n ih =>
    intro c m hm hn
    rw [L_X9_bits_4]
    by_cases h0 : m = 0
    · subst h0
      rw [if_pos (show nI 0 = 0 from rfl), show pcN 0 = 0 from pcU_0 14]; rfl
    · rw [if_neg (nI_ne0 (by omega) (by omega))]
      have e1 : nI m - 1 = nI (m - 1) := pk_sub (b := 1) (by omega)
      show L_X9_bits_4 a1 n (nI c + 1) (nI m &&& (nI m - 1)) = _
      have hl : m &&& (m - 1) ≤ m - 1 := Nat.and_le_right
      rw [nI_1, e1, nx_and, ih (c + 1) _ (by omega) (by omega), ← pc_low hm h0]
      congr 2; omega
theorem bits_n {m : Nat} (hm : m < 16384) : f_X9_bits (nI m) = some (nI (pcN m)) := by
  unfold f_X9_bits
  show L_X9_bits_4 (nI m) NN (nI 0) (nI m) = _
  rw [l_bits _ NN 0 m hm (show m < 32768 by omega), Nat.zero_add]
theorem s_X9_bits (a1 : Int32) (h_a1 : 0 ≤ a1.toInt ∧ a1.toInt ≤ 16383) : Sat (f_X9_bits a1) (fun r => (r = nI (pcN a1.toNatClampNeg) ∧ 0 ≤ r.toInt ∧ r.toInt ≤ 14) ∧ True) := by
  obtain ⟨m, h1, h2, rfl, h3⟩ := mk_of h_a1
  rw [bits_n (by omega)]
  have := pcN_le m
  refine sat_some ⟨⟨by rw [h3], ?_, ?_⟩, trivial⟩
  · rw [nI_toInt (by omega)]; omega
  · rw [nI_toInt (by omega)]; omega
theorem ex_bit {t : Nat} (h : t ≠ 0) : ∃ i, t.testBit i = true := by
  by_cases hh : ∃ i, t.testBit i = true
  · exact hh
  · exfalso
    apply h
    apply Nat.eq_of_testBit_eq
    intro i
    rw [Nat.zero_testBit]
    cases e : t.testBit i
    · rfl
    · exact absurd ⟨i, e⟩ hh
theorem grow {x y : Int32} (hx : 0 ≤ x.toInt ∧ x.toInt ≤ 16383) (hy : 0 ≤ y.toInt ∧ y.toInt ≤ 16383) (h : ¬ (y &&& (x ^^^ (-1 : Int32))) = 0) : x.toInt < (x ||| (y &&& (x ^^^ (-1 : Int32)))).toInt := by
  obtain ⟨s, h1, h2, rfl, _⟩ := mk_of hx
  obtain ⟨f, h3, h4, rfl, _⟩ := mk_of hy
  rw [nx_nd] at h ⊢
  rw [nx_or]
  have hn : nd f s ≠ 0 := fun e => h (by rw [e]; rfl)
  have hb : nd f s ≤ f := nd_le f s
  have hl := or_lt (a := s) (b := nd f s) (by omega) (by omega)
  rw [nI_toInt h2, nI_toInt (by omega)]
  obtain ⟨i, hi⟩ := ex_bit hn
  have hle : s ≤ s ||| nd f s := Nat.left_le_or
  have hne : s ≠ s ||| nd f s := by
    intro e
    have e2 : s.testBit i = (s ||| nd f s).testBit i := by rw [← e]
    rw [Nat.testBit_or, hi, Bool.or_true] at e2
    rw [nd_bit _ _ (by omega), e2] at hi
    simp at hi
  omega
theorem rem4_rg {x : Int32} (h : 0 ≤ x.toInt ∧ x.toInt ≤ 1023) : 0 ≤ (x - x / (4 : Int32) * (4 : Int32)).toInt ∧ (x - x / (4 : Int32) * (4 : Int32)).toInt ≤ 3 := by
  obtain ⟨m, h1, h2, rfl, _⟩ := mk_of h
  rw [show nI m - nI m / (4 : Int32) * (4 : Int32) = nI (m % 4) from pk_rem (d := 4) h2 (by decide) (by decide)]
  rw [nI_toInt (by omega)]
  omega
theorem div4_rg {x y : Int32} (e : y = x / (4 : Int32)) (h : 0 ≤ x.toInt ∧ x.toInt ≤ 1023) : 0 ≤ y.toInt ∧ y.toInt ≤ 1023 := by
  obtain ⟨m, h1, h2, rfl, _⟩ := mk_of h
  rw [e, show nI m / (4 : Int32) = nI (m / 4) from pk_div (d := 4) h2 (by decide) (by decide)]
  rw [nI_toInt (by omega)]
  omega
def AskOK (t_bags : Int32) (t_bag : Nat → Int32) : Prop := 1 ≤ t_bags.toInt ∧ ∀ i : Nat, (i : Int) < t_bags.toInt → pcN (t_bag i).toNatClampNeg ≤ 5
theorem aok {u t_bags : Int32} {t_bag : Nat → Int32} (h : (u = 0 ∨ AskOK t_bags t_bag) ∧ 0 ≤ u.toInt ∧ u.toInt ≤ 1) (hc : ¬ u = 0) : AskOK t_bags t_bag := h.1.resolve_left hc
theorem sub_rg {a u : Int32} (hu : 0 ≤ u.toInt ∧ u.toInt ≤ 16383) (ha : 0 < a.toInt) (h : (a &&& (u ^^^ (-1 : Int32))) = 0) : 0 ≤ a.toInt ∧ a.toInt ≤ 16383 := by
  obtain ⟨m, h1, h2, rfl, _⟩ := mk_of (x := a) (hi := a.toInt) (by omega)
  obtain ⟨k, h3, h4, rfl, _⟩ := mk_of hu
  rw [nx_nd] at h
  rw [nI_toInt h2] at ha ⊢
  have e : nd m k = 0 := by
    have hl := nd_le m k
    rcases Nat.eq_zero_or_pos (nd m k) with z | z
    · exact z
    · exact absurd h (nI_ne0 z (by omega))
  have hm : m ≤ k := by
    apply Nat.le_of_testBit
    intro i hi
    have := nd_bit (a := m) k i (by omega)
    rw [e, Nat.zero_testBit, hi] at this
    simpa using this.symm
  omega
theorem bits_ti {u v : Int32} (h : u = nI (pcN v.toNatClampNeg)) : u.toInt = (pcN v.toNatClampNeg : Int) := by
  have := pcN_le v.toNatClampNeg
  rw [h, nI_toInt (by omega)]
def WidOK (t_bags : Int32) (t_bag : Nat → Int32) (r : Int32) : Prop := ∀ i : Nat, (i : Int) < t_bags.toInt → (pcN (t_bag i).toNatClampNeg : Int) - 1 ≤ r.toInt
theorem pow4_le {a b : Nat} (h : a ≤ b) : 4 ^ a ≤ 4 ^ b := Nat.pow_le_pow_right (by decide) h
theorem pow4_k {j m : Nat} (h : j ≤ 14) : 4 ^ pcU j m ≤ 4 ^ pcU 14 m := pow4_le (pcU_k m h)
def M5 (x : Int32) : Prop := (0 ≤ x.toInt ∧ x.toInt ≤ 16383) ∧ pcN x.toNatClampNeg ≤ 5
theorem m5_c {x : Int32} (h : M5 x) : ((4 ^ pcU 14 x.toNatClampNeg : Nat) : Int) ≤ 1024 := by
  have h1 : 4 ^ pcU 14 x.toNatClampNeg ≤ 4 ^ 5 := pow4_le h.2
  omega
theorem m5_and {a b : Int32} (ha : 0 ≤ a.toInt ∧ a.toInt ≤ 16383) (hb : 0 ≤ b.toInt ∧ b.toInt ≤ 16383) (h : pcN b.toNatClampNeg ≤ 5) : M5 (a &&& b) := by
  refine ⟨anl_rg ha, ?_⟩
  obtain ⟨m, h1, h2, rfl, _⟩ := mk_of ha
  obtain ⟨k, h3, h4, rfl, e⟩ := mk_of hb
  rw [e] at h
  have hl : m &&& k ≤ k := Nat.and_le_right
  rw [nx_and, nI_clamp (by omega)]
  refine Nat.le_trans (pcU_mono fun i _ hi => ?_) h
  rw [Nat.testBit_and] at hi
  simp at hi
  exact hi.2
theorem m5_0 : M5 0 := ⟨by decide, by rw [show (0 : Int32).toNatClampNeg = 0 from rfl, show pcN 0 = 0 from pcU_0 14]; decide⟩
theorem codes_rg {u : Int32} {p : Nat} (h : u = nI p) (hp : p ≤ 5) : 0 ≤ ((1 : Int32) <<< (((2 : Int32) * u) &&& 31)).toInt ∧ ((1 : Int32) <<< (((2 : Int32) * u) &&& 31)).toInt ≤ 1024 := by
  subst h
  rw [show (2 : Int32) * nI p = nI (2 * p) from pk_mul 2 p, nx_bit1 (2 * p) (by omega)]
  have h2 : 2 ^ (2 * p) ≤ 1024 := Nat.pow_le_pow_right (n := 2) (j := 10) (by decide) (by omega)
  generalize 2 ^ (2 * p) = q at h2 ⊢
  rw [nI_toInt (by omega)]
  omega
theorem tb_lt {m i : Nat} (hm : m < 16384) (h : m.testBit i = true) : i < 14 := by
  rcases Nat.lt_or_ge i 14 with z | z
  · exact z
  · rw [Nat.testBit_lt_two_pow (Nat.lt_of_lt_of_le hm (Nat.pow_le_pow_right (n := 2) (by decide) z))] at h
    cases h
theorem nd_lt {a b i : Nat} (ha : a < 2 ^ 32) (h1 : a.testBit i = true) (h2 : b.testBit i = true) : nd a b < a := by
  have hl := nd_le a b
  have hne : nd a b ≠ a := by
    intro e
    have := nd_bit (a := a) b i ha
    rw [e, h1, h2] at this
    simp at this
  omega
theorem clr {x y : Int32} {i : Nat} (hx : 0 ≤ x.toInt ∧ x.toInt ≤ 16383) (hy : 0 ≤ y.toInt ∧ y.toInt ≤ 16383) (h1 : x.toNatClampNeg.testBit i = true) (h2 : y.toNatClampNeg.testBit i = true) : (x &&& (y ^^^ (-1 : Int32))).toInt < x.toInt := by
  obtain ⟨m, a1, a2, rfl, a3⟩ := mk_of hx
  obtain ⟨k, b1, b2, rfl, b3⟩ := mk_of hy
  rw [a3] at h1
  rw [b3] at h2
  have hlt := nd_lt (a := m) (b := k) (by omega) h1 h2
  rw [nx_nd, nI_toInt (by omega), nI_toInt a2]
  omega
theorem clr_sub {x y : Int32} {i : Nat} (hx : 0 ≤ x.toInt ∧ x.toInt ≤ 16383) (hy : 0 ≤ y.toInt ∧ y.toInt ≤ 16383) (h : (x &&& (y ^^^ (-1 : Int32))).toNatClampNeg.testBit i = true) : x.toNatClampNeg.testBit i = true := by
  obtain ⟨m, a1, a2, rfl, a3⟩ := mk_of hx
  obtain ⟨k, b1, b2, rfl, b3⟩ := mk_of hy
  have hl := nd_le m k
  rw [nx_nd, nI_clamp (by omega), nd_bit _ _ (by omega)] at h
  rw [a3]
  simp at h
  exact h.1
theorem shl_tn {k : Int32} (h : 0 ≤ k.toInt ∧ k.toInt ≤ 13) : ((1 : Int32) <<< (k &&& 31)).toNatClampNeg = 2 ^ k.toNatClampNeg := by
  obtain ⟨m, a1, a2, rfl, a3⟩ := mk_of h
  have := pow_lt14 (k := m) (by omega)
  rw [nx_bit1 m (by omega), nI_clamp (by omega), a3]
theorem low_ex (k : Nat) : ∀ m, 0 < m → m < 2 ^ k → ∃ i, m.testBit i = true ∧ (2 ^ k - m).testBit i = true := by
  induction k with
  | zero => intro m h1 h2; simp at h2; omega
  | succ k ih =>
    intro m h1 h2
    have hp : 2 ^ (k + 1) = 2 * 2 ^ k := by rw [Nat.pow_succ]; omega
    rcases Nat.mod_two_eq_zero_or_one m with h | h
    · obtain ⟨i, a, b⟩ := ih (m / 2) (by omega) (by omega)
      refine ⟨i + 1, by rw [tb_succ]; exact a, ?_⟩
      rw [tb_succ, show (2 ^ (k + 1) - m) / 2 = 2 ^ k - m / 2 from by omega]
      exact b
    · refine ⟨0, by rw [tb0, h]; rfl, ?_⟩
      rw [tb0, show (2 ^ (k + 1) - m) % 2 = 1 from by omega]; rfl
theorem nx_neg {m : Nat} (h0 : 0 < m) (h : m < 2 ^ 32) : -(nI m) = nI (2 ^ 32 - m) := by
  apply Int32.toBitVec_inj.mp
  apply BitVec.eq_of_toNat_eq
  rw [Int32.toBitVec_neg, BitVec.toNat_neg, pk_tn h, pk_tn (by omega), Nat.mod_eq_of_lt (by omega)]
theorem low_c {x : Int32} (hx : 0 ≤ x.toInt ∧ x.toInt ≤ 16383) (h0 : ¬ x = 0) : ∃ i, (x &&& (-x)).toNatClampNeg.testBit i = true ∧ x.toNatClampNeg.testBit i = true := by
  obtain ⟨m, a1, a2, rfl, a3⟩ := mk_of hx
  have hm : 0 < m := by
    rcases Nat.eq_zero_or_pos m with z | z
    · subst z; exact absurd rfl h0
    · exact z
  obtain ⟨i, h1, h2⟩ := low_ex 32 m hm (by omega)
  refine ⟨i, ?_, by rw [a3]; exact h1⟩
  have hl : m &&& (2 ^ 32 - m) ≤ m := Nat.and_le_left
  rw [nx_neg hm (by omega), nx_and, nI_clamp (by omega), Nat.testBit_and, h1, h2]; rfl
theorem or_ge {a b : Int32} (ha : 0 ≤ a.toInt ∧ a.toInt ≤ 16383) (hb : 0 ≤ b.toInt ∧ b.toInt ≤ 16383) : a.toInt ≤ (a ||| b).toInt := by
  obtain ⟨m, a1, a2, rfl, a3⟩ := mk_of ha
  obtain ⟨k, b1, b2, rfl, b3⟩ := mk_of hb
  have hl : m ≤ m ||| k := Nat.left_le_or
  have := or_lt (a := m) (b := k) (by omega) (by omega)
  rw [nx_or, nI_toInt a2, nI_toInt (by omega)]
  omega
theorem or_tb {a b : Int32} {i : Nat} (ha : 0 ≤ a.toInt ∧ a.toInt ≤ 16383) (hb : 0 ≤ b.toInt ∧ b.toInt ≤ 16383) : (a ||| b).toNatClampNeg.testBit i = (a.toNatClampNeg.testBit i || b.toNatClampNeg.testBit i) := by
  obtain ⟨m, a1, a2, rfl, a3⟩ := mk_of ha
  obtain ⟨k, b1, b2, rfl, b3⟩ := mk_of hb
  have := or_lt (a := m) (b := k) (by omega) (by omega)
  rw [nx_or, nI_clamp (by omega), a3, b3, Nat.testBit_or]
theorem has1_tb {a k : Int32} (ha : 0 ≤ a.toInt ∧ a.toInt ≤ 16383) (hk : 0 ≤ k.toInt ∧ k.toInt ≤ 13) : ((a >>> (k &&& 31)) &&& (1 : Int32)) = (1 : Int32) ↔ a.toNatClampNeg.testBit k.toNatClampNeg = true := by
  obtain ⟨m, a1, a2, rfl, a3⟩ := mk_of ha
  obtain ⟨j, b1, b2, rfl, b3⟩ := mk_of hk
  rw [nx_has1 a2 (by omega), a3, b3]
theorem has0_tb {a k : Int32} (ha : 0 ≤ a.toInt ∧ a.toInt ≤ 16383) (hk : 0 ≤ k.toInt ∧ k.toInt ≤ 13) : ((a >>> (k &&& 31)) &&& (1 : Int32)) = 0 ↔ a.toNatClampNeg.testBit k.toNatClampNeg = false := by
  obtain ⟨m, a1, a2, rfl, a3⟩ := mk_of ha
  obtain ⟨j, b1, b2, rfl, b3⟩ := mk_of hk
  rw [nx_has0 a2 (by omega), a3, b3]
/-! the mask of a row -/
def rmN (f : Nat → Int32) : Nat → Nat
  | 0 => 0
  | r + 1 => rmN f r ||| 2 ^ (f r).toNatClampNeg
theorem rmN_lt {f : Nat → Int32} (hf : ∀ i, 0 ≤ (f i).toInt ∧ (f i).toInt ≤ 13) (r : Nat) : rmN f r < 16384 := by
  induction r with
  | zero => show 0 < 16384; decide
  | succ r ih =>
    have h := hf r
    have h2 := tn (x := f r) h.1
    exact or_lt ih (pow_lt14 (by omega))
theorem rmN_upd (f : Nat → Int32) (k : Nat) (x : Int32) : ∀ r, r ≤ k → rmN (upd f k x) r = rmN f r := by
  intro r
  induction r with
  | zero => intro _; rfl
  | succ r ih =>
    intro h
    show rmN (upd f k x) r ||| 2 ^ (upd f k x r).toNatClampNeg = _
    rw [ih (by omega), pk_un (by omega)]; rfl
theorem rmN_app (f : Nat → Int32) (k : Nat) (x : Int32) : rmN (upd f k x) (k + 1) = rmN f k ||| 2 ^ x.toNatClampNeg := by
  show rmN (upd f k x) k ||| 2 ^ (upd f k x k).toNatClampNeg = _
  rw [rmN_upd f k x k (Nat.le_refl _), pk_us]
def RW (t_rowed : Int32) (t_row : Nat → Int32) : Prop := pcN (rmN t_row t_rowed.toNatClampNeg) = t_rowed.toNatClampNeg
theorem RW_0 (f : Nat → Int32) : RW 0 f := pcU_0 14
theorem RW_app {r x : Int32} {f : Nat → Int32} (hr : 0 ≤ r.toInt ∧ r.toInt ≤ 14) (hx : 0 ≤ x.toInt ∧ x.toInt ≤ 13) (h : RW r f) (hb : (rmN f r.toNatClampNeg).testBit x.toNatClampNeg = false) : r.toInt ≤ 13 ∧ RW (r + 1) (upd f r.toNatClampNeg x) ∧ (r + 1).toNatClampNeg = r.toNatClampNeg + 1 := by
  have n1 := tn (x := r) hr.1
  have n2 := tn (x := x) hx.1
  have l1 : (1 : Int32).toInt = 1 := rfl
  have h1 : pcN (rmN f r.toNatClampNeg ||| 2 ^ x.toNatClampNeg) = pcN (rmN f r.toNatClampNeg) + 1 := pcU_add (by omega) hb
  have h2 := pcN_le (rmN f r.toNatClampNeg ||| 2 ^ x.toNatClampNeg)
  have h3 : pcN (rmN f r.toNatClampNeg) = r.toNatClampNeg := h
  have k1 : (r + (1 : Int32)).toInt = r.toInt + (1 : Int32).toInt := ti_add (by omega) (by omega)
  have n3 := tn (x := r + 1) (by omega)
  have e : (r + 1).toNatClampNeg = r.toNatClampNeg + 1 := by omega
  refine ⟨by omega, ?_, e⟩
  unfold RW
  rw [e, rmN_app, h1, h3]
theorem tb_all (n i : Nat) : (2 ^ n - 1).testBit i = decide (i < n) := Nat.testBit_two_pow_sub_one n i
theorem all_v {n : Nat} (h : n ≤ 14) : ((1 : Int32) <<< (nI n &&& 31)) - (1 : Int32) = nI (2 ^ n - 1) := by
  have hp : 0 < 2 ^ n := Nat.two_pow_pos n
  rw [nx_bit1 n (by omega)]
  exact pk_sub (b := 1) hp
theorem all_n (t_knots : Int32) (h : 0 ≤ t_knots.toInt ∧ t_knots.toInt ≤ 14) : Sat (f_X9_all t_knots) (fun r => (0 ≤ r.toInt ∧ r.toInt ≤ 16383) ∧ ∀ i : Nat, r.toNatClampNeg.testBit i = true → (i : Int) < t_knots.toInt) := by
  obtain ⟨n, a1, a2, rfl, a3⟩ := mk_of h
  have hp : 2 ^ n ≤ 16384 := Nat.pow_le_pow_right (n := 2) (j := 14) (by decide) (by omega)
  have hq : 0 < 2 ^ n := Nat.two_pow_pos n
  unfold f_X9_all
  rw [all_v (by omega)]
  refine sat_some ⟨mk_rg (by omega), fun i hi => ?_⟩
  rw [nI_clamp (by omega), tb_all] at hi
  rw [nI_toInt a2]
  have := of_decide_eq_true hi
  omega
/-! the reference's table of least widths -/
theorem sat_cal_eq {α β : Type} {o : Option α} {k : α → Option β} {Q : α → Prop} {P : β → Prop} (ho : Sat o Q) (h : ∀ u, o = some u → Q u → Sat (k u) P) : Sat (cal o k) P := by
  obtain ⟨a, rfl, hq⟩ := ho
  exact h a rfl hq
def arN (beside : Nat → Int32) (knots : Int32) (g k : Nat) : Nat := ((f_X9_around (nI g) (nI k) knots beside).getD 0).toNatClampNeg
def aN (t_knots : Int32) : Nat := 2 ^ t_knots.toNatClampNeg - 1
theorem aN_lt {t_knots : Int32} (h : 0 ≤ t_knots.toInt ∧ t_knots.toInt ≤ 14) : aN t_knots < 16384 := by
  have n := tn (x := t_knots) h.1
  have hp : 2 ^ t_knots.toNatClampNeg ≤ 16384 := Nat.pow_le_pow_right (n := 2) (j := 14) (by decide) (by omega)
  have hq : 0 < 2 ^ t_knots.toNatClampNeg := Nat.two_pow_pos _
  unfold aN
  omega
theorem all_eq {t_knots : Int32} (h : 0 ≤ t_knots.toInt ∧ t_knots.toInt ≤ 14) : f_X9_all t_knots = some (nI (aN t_knots)) := by
  obtain ⟨n, a1, a2, rfl, a3⟩ := mk_of h
  unfold f_X9_all aN
  rw [all_v (by omega), a3]
theorem ne_aN {t_knots : Int32} {g : Nat} (h : g < aN t_knots) : ∃ k, k < t_knots.toNatClampNeg ∧ g.testBit k = false := by
  by_cases hh : ∃ k, k < t_knots.toNatClampNeg ∧ g.testBit k = false
  · exact hh
  · exfalso
    have hle : aN t_knots ≤ g := by
      apply Nat.le_of_testBit
      intro i hi
      unfold aN at hi
      rw [tb_all] at hi
      have hi := of_decide_eq_true hi
      cases e : g.testBit i
      · exact absurd ⟨i, hi, e⟩ hh
      · rfl
    omega
theorem le_aN {t_knots : Int32} {g : Nat} (h : ∀ i, g.testBit i = true → i < t_knots.toNatClampNeg) : g ≤ aN t_knots := by
  apply Nat.le_of_testBit
  intro i hi
  unfold aN
  rw [tb_all]
  exact decide_eq_true (h i hi)
def GD (T beside : Nat → Int32) (knots : Int32) (g : Nat) : Prop := (T g).toInt ≤ 14 ∧ (g < aN knots → ∃ k, k < knots.toNatClampNeg ∧ g.testBit k = false ∧ (pcN (arN beside knots g k) : Int) ≤ (T g).toInt ∧ (T (g ||| 2 ^ k)).toInt ≤ (T g).toInt)
theorem or_gt {g k : Nat} (h : g.testBit k = false) : g < g ||| 2 ^ k := by
  have hle : g ≤ g ||| 2 ^ k := Nat.left_le_or
  have hne : g ≠ g ||| 2 ^ k := by
    intro e
    have e2 : g.testBit k = (g ||| 2 ^ k).testBit k := by rw [← e]
    rw [tb_or2, h] at e2
    simp at e2
  omega
theorem GD_upd {T beside : Nat → Int32} {knots v : Int32} {x g : Nat} (hx : x < g) (h : GD T beside knots g) : GD (upd T x v) beside knots g := by
  refine ⟨by rw [pk_un (by omega)]; exact h.1, fun hg => ?_⟩
  obtain ⟨k, h1, h2, h3, h4⟩ := h.2 hg
  have := or_gt h2
  exact ⟨k, h1, h2, by rw [pk_un (by omega)]; exact h3, by rw [pk_un (by omega), pk_un (by omega)]; exact h4⟩
theorem arN_eq {beside : Nat → Int32} {knots g k u : Int32} (hg : 0 ≤ g.toInt ∧ g.toInt ≤ 16383) (hk : 0 ≤ k.toInt ∧ k.toInt ≤ 13) (h : f_X9_around g k knots beside = some u) : arN beside knots g.toNatClampNeg k.toNatClampNeg = u.toNatClampNeg := by
  obtain ⟨m, a1, a2, rfl, a3⟩ := mk_of hg
  obtain ⟨j, b1, b2, rfl, b3⟩ := mk_of hk
  unfold arN
  rw [a3, b3, h]; rfl
theorem or_n {g k : Int32} (hg : 0 ≤ g.toInt ∧ g.toInt ≤ 16383) (hk : 0 ≤ k.toInt ∧ k.toInt ≤ 13) : (g ||| ((1 : Int32) <<< (k &&& 31))).toNatClampNeg = g.toNatClampNeg ||| 2 ^ k.toNatClampNeg := by
  obtain ⟨m, a1, a2, rfl, a3⟩ := mk_of hg
  obtain ⟨j, b1, b2, rfl, b3⟩ := mk_of hk
  have := or_lt (a := m) (b := 2 ^ j) (by omega) (pow_lt14 (by omega))
  rw [nx_bit1 j (by omega), nx_or, nI_clamp (by omega), a3, b3]
def TWL (T beside : Nat → Int32) (knots : Int32) (g : Nat) : Prop := (T g).toInt ≤ 100 ∧ ((T g).toInt = 100 ∨ g = aN knots ∨ ∃ k, k < knots.toNatClampNeg ∧ g.testBit k = false ∧ (pcN (arN beside knots g k) : Int) ≤ (T g).toInt ∧ (T (g ||| 2 ^ k)).toInt ≤ (T g).toInt)
