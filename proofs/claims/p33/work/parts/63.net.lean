/-! The net as numbers, call by call. -/
def esum (B : Nat → Nat) : Nat := sm (fun k => pcN (B k)) 14
/-- the net and the number of its edges -/
def NetE (n : Nat) (near : Nat → Int32) (edges : Int32) : Prop := ∃ B c, NetN n B near ∧ edges = nI c ∧ 2 * c = esum B
theorem esum_0 : esum (fun _ => 0) = 0 := by
  have h := sm_bd (g := fun k => pcN ((fun _ : Nat => (0 : Nat)) k)) (k := 14) (c := 0) (fun i _ => Nat.le_of_eq (pcU_0 14))
  exact Nat.le_zero.mp h
theorem Net_0 : NetE 0 (fun _ => 0) 0 := ⟨fun _ => 0, 0, ⟨by omega, fun _ => rfl, fun _ => (by decide : (0 : Nat) < 2 ^ 0), fun _ _ => rfl, fun _ => Nat.zero_testBit _, fun a b h => absurd h (by rw [Nat.zero_testBit]; decide)⟩, rfl, by rw [esum_0]⟩
theorem Net_S {n : Nat} {near : Nat → Int32} {edges : Int32} (h : NetE n near edges) (hn : n < 14) : NetE (n + 1) near edges := by
  obtain ⟨B, c, N, e1, e2⟩ := h
  refine ⟨B, c, ⟨by omega, N.2.1, fun k => ?_, fun k hk => N.2.2.2.1 k (by omega), N.2.2.2.2.1, N.2.2.2.2.2⟩, e1, e2⟩
  have := N.2.2.1 k
  have : 2 ^ (n + 1) = 2 * 2 ^ n := by rw [Nat.pow_succ]; omega
  omega
theorem esum_2 {B B' : Nat → Nat} {a b : Nat} (ha : a < 14) (hb : b < 14) (h : ∀ k, k < 14 → pcN (B' k) = pcN (B k) + ((if k = a then 1 else 0) + (if k = b then 1 else 0))) : esum B' = esum B + 2 := by
  unfold esum
  rw [sm_congr (h := fun k => pcN (B k) + ((if k = a then 1 else 0) + (if k = b then 1 else 0))) h, sm_add, sm_add, sm_one 14 ha, sm_one 14 hb]
/-- with an edge -/
def jnB (B : Nat → Nat) (a b k : Nat) : Nat := if k = b then B b ||| 2 ^ a else if k = a then B a ||| 2 ^ b else B k
/-- without an edge -/
def ptB (B : Nat → Nat) (a b k : Nat) : Nat := if k = b then nd (B b) (2 ^ a) else if k = a then nd (B a) (2 ^ b) else B k
theorem jn_t {B : Nat → Nat} {a b : Nat} (hab : a ≠ b) (k i : Nat) : (jnB B a b k).testBit i = true ↔ ((B k).testBit i = true ∨ (k = a ∧ i = b) ∨ (k = b ∧ i = a)) := by
  unfold jnB
  by_cases kb : k = b
  · subst kb
    rw [if_pos rfl, or2_t]
    constructor
    · rintro (z | z)
      · exact Or.inl z
      · exact Or.inr (Or.inr ⟨rfl, z.symm⟩)
    · rintro (z | ⟨z, _⟩ | ⟨_, z⟩)
      · exact Or.inl z
      · exact absurd z.symm hab
      · exact Or.inr z.symm
  · rw [if_neg kb]
    by_cases ka : k = a
    · subst ka
      rw [if_pos rfl, or2_t]
      constructor
      · rintro (z | z)
        · exact Or.inl z
        · exact Or.inr (Or.inl ⟨rfl, z.symm⟩)
      · rintro (z | ⟨_, z⟩ | ⟨z, _⟩)
        · exact Or.inl z
        · exact Or.inr z.symm
        · exact absurd z kb
    · rw [if_neg ka]
      exact ⟨Or.inl, fun z => by rcases z with z | ⟨z, _⟩ | ⟨z, _⟩; exact z; exact absurd z ka; exact absurd z kb⟩
theorem pt_t {B : Nat → Nat} (hB : ∀ k, B k < 2 ^ 32) {a b : Nat} (hab : a ≠ b) (k i : Nat) : (ptB B a b k).testBit i = true ↔ ((B k).testBit i = true ∧ ¬ (k = a ∧ i = b) ∧ ¬ (k = b ∧ i = a)) := by
  unfold ptB
  by_cases kb : k = b
  · subst kb
    rw [if_pos rfl, nd2_t (hB k)]
    exact ⟨fun z => ⟨z.1, fun w => hab w.1.symm, fun w => z.2 w.2.symm⟩, fun z => ⟨z.1, fun w => z.2.2 ⟨rfl, w.symm⟩⟩⟩
  · rw [if_neg kb]
    by_cases ka : k = a
    · subst ka
      rw [if_pos rfl, nd2_t (hB k)]
      exact ⟨fun z => ⟨z.1, fun w => z.2 w.2.symm, fun w => kb w.1⟩, fun z => ⟨z.1, fun w => z.2.1 ⟨rfl, w.symm⟩⟩⟩
    · rw [if_neg ka]
      exact ⟨fun z => ⟨z, fun w => ka w.1, fun w => kb w.1⟩, fun z => z.1⟩
theorem jn_net {n : Nat} {B : Nat → Nat} {near : Nat → Int32} (N : NetN n B near) {a b : Nat} (ha : a < n) (hb : b < n) (hab : a ≠ b) : NetN n (jnB B a b) (upd (upd near a (near a ||| ((1 : Int32) <<< (nI b &&& 31)))) b ((upd near a (near a ||| ((1 : Int32) <<< (nI b &&& 31)))) b ||| ((1 : Int32) <<< (nI a &&& 31)))) := by
  have hn := N.1
  refine ⟨hn, fun k => ?_, fun k => ?_, fun k hk => ?_, fun k => bf fun z => ?_, fun x y h => ?_⟩
  · rw [pk_un (show b ≠ a from fun z => hab z.symm), N.2.1 a, N.2.1 b, nx_bit1 a (by omega), nx_bit1 b (by omega), nx_or, nx_or]
    unfold jnB
    by_cases kb : k = b
    · subst kb; rw [pk_us, if_pos rfl]
    · rw [pk_un kb, if_neg kb]
      by_cases ka : k = a
      · subst ka; rw [pk_us, if_pos rfl]
      · rw [pk_un ka, if_neg ka]; exact N.2.1 k
  · unfold jnB
    have := N.2.2.1
    split
    · exact lt2n (this b) ha
    · split
      · exact lt2n (this a) hb
      · exact this k
  · unfold jnB
    rw [if_neg (by omega), if_neg (by omega)]; exact N.2.2.2.1 k hk
  · rcases (jn_t hab k k).mp z with w | ⟨w1, w2⟩ | ⟨w1, w2⟩
    · rw [N.2.2.2.2.1 k] at w; cases w
    · exact hab (w1.symm.trans w2)
    · exact hab (w2.symm.trans w1)
  · refine (jn_t hab y x).mpr ?_
    rcases (jn_t hab x y).mp h with w | ⟨w1, w2⟩ | ⟨w1, w2⟩
    · exact Or.inl (N.2.2.2.2.2 _ _ w)
    · exact Or.inr (Or.inr ⟨w2, w1⟩)
    · exact Or.inr (Or.inl ⟨w2, w1⟩)
theorem pt_net {n : Nat} {B : Nat → Nat} {near : Nat → Int32} (N : NetN n B near) {a b : Nat} (ha : a < n) (hb : b < n) (hab : a ≠ b) : NetN n (ptB B a b) (upd (upd near a (near a &&& (((1 : Int32) <<< (nI b &&& 31)) ^^^ (-1 : Int32)))) b ((upd near a (near a &&& (((1 : Int32) <<< (nI b &&& 31)) ^^^ (-1 : Int32)))) b &&& (((1 : Int32) <<< (nI a &&& 31)) ^^^ (-1 : Int32)))) := by
  have hn := N.1
  have hp := p2n hn
  have hB : ∀ k, B k < 2 ^ 32 := fun k => by have := N.2.2.1 k; omega
  refine ⟨hn, fun k => ?_, fun k => ?_, fun k hk => ?_, fun k => bf fun z => ?_, fun x y h => ?_⟩
  · rw [pk_un (show b ≠ a from fun z => hab z.symm), N.2.1 a, N.2.1 b, nx_bit1 a (by omega), nx_bit1 b (by omega), nx_nd, nx_nd]
    unfold ptB
    by_cases kb : k = b
    · subst kb; rw [pk_us, if_pos rfl]
    · rw [pk_un kb, if_neg kb]
      by_cases ka : k = a
      · subst ka; rw [pk_us, if_pos rfl]
      · rw [pk_un ka, if_neg ka]; exact N.2.1 k
  · unfold ptB
    have := N.2.2.1
    split
    · exact Nat.lt_of_le_of_lt (nd_le _ _) (this b)
    · split
      · exact Nat.lt_of_le_of_lt (nd_le _ _) (this a)
      · exact this k
  · unfold ptB
    rw [if_neg (by omega), if_neg (by omega)]; exact N.2.2.2.1 k hk
  · have := ((pt_t hB hab k k).mp z).1
    rw [N.2.2.2.2.1 k] at this; cases this
  · obtain ⟨w, w1, w2⟩ := (pt_t hB hab x y).mp h
    exact (pt_t hB hab y x).mpr ⟨N.2.2.2.2.2 _ _ w, fun q => w2 ⟨q.2, q.1⟩, fun q => w1 ⟨q.2, q.1⟩⟩
theorem jn_sum {n : Nat} {B : Nat → Nat} {near : Nat → Int32} (N : NetN n B near) {a b : Nat} (ha : a < n) (hb : b < n) (hab : a ≠ b) (h : (B a).testBit b = false) : esum (jnB B a b) = esum B + 2 := by
  have hn := N.1
  have h2 : (B b).testBit a = false := bf fun z => by rw [N.2.2.2.2.2 _ _ z] at h; cases h
  refine esum_2 (a := a) (b := b) (by omega) (by omega) fun k hk => ?_
  unfold jnB
  by_cases kb : k = b
  · subst kb
    rw [if_pos rfl, if_neg (fun z => hab z.symm), if_pos rfl, pcN_add (by omega) h2]
  · rw [if_neg kb]
    by_cases ka : k = a
    · subst ka
      rw [if_pos rfl, if_pos rfl, if_neg kb, pcN_add (by omega) h]
    · rw [if_neg ka, if_neg ka, if_neg kb]; rfl
theorem jn_same {n : Nat} {B : Nat → Nat} {near : Nat → Int32} (N : NetN n B near) {a b : Nat} (hab : a ≠ b) (h : (B a).testBit b = true) : esum (jnB B a b) = esum B := by
  have h2 := N.2.2.2.2.2 _ _ h
  unfold esum
  refine sm_congr fun k _ => pcU_congr fun i _ => ?_
  rw [Bool.eq_iff_iff, jn_t hab]
  constructor
  · rintro (z | ⟨z1, z2⟩ | ⟨z1, z2⟩)
    · exact z
    · rw [z1, z2]; exact h
    · rw [z1, z2]; exact h2
  · exact Or.inl
theorem pt_sum {n : Nat} {B : Nat → Nat} {near : Nat → Int32} (N : NetN n B near) {a b : Nat} (ha : a < n) (hb : b < n) (hab : a ≠ b) (h : (B a).testBit b = true) : esum B = esum (ptB B a b) + 2 := by
  have hn := N.1
  have hp := p2n hn
  have hB : ∀ k, B k < 2 ^ 32 := fun k => by have := N.2.2.1 k; omega
  have h2 := N.2.2.2.2.2 _ _ h
  refine esum_2 (a := a) (b := b) (by omega) (by omega) fun k hk => ?_
  unfold ptB
  by_cases kb : k = b
  · subst kb
    have := pcN_del (hB k) (show a < 14 by omega) h2
    rw [if_pos rfl, if_neg (fun z => hab z.symm), if_pos rfl]; omega
  · rw [if_neg kb]
    by_cases ka : k = a
    · subst ka
      have := pcN_del (hB k) (show b < 14 by omega) h
      rw [if_pos rfl, if_pos rfl, if_neg kb]; omega
    · rw [if_neg ka, if_neg ka, if_neg kb]; rfl
theorem edge_net {n : Nat} {near : Nat → Int32} {edges : Int32} (H : NetE n near edges) (a b w : Int32) (ties : Nat → Int32) {r : Int32 × Int32 × (Nat → Int32) × (Nat → Int32)} (h : f_X8_edge a b w (nI n) edges near ties = some r) : NetE n r.2.2.1 r.2.1 := by
  have H0 := H
  obtain ⟨B, c, N, rfl, e2⟩ := H
  have hn := N.1
  have hp := p2n hn
  unfold f_X8_edge at h
  rcases has_n hn a with ha | ⟨x, x1, rfl, ha⟩
  · rw [cal_e ha, if_pos rfl] at h; cases h; exact H0
  · rw [cal_e ha, if_neg n10] at h
    rcases has_n hn b with hb | ⟨y, y1, rfl, hb⟩
    · rw [cal_e hb, if_pos rfl] at h; cases h; exact H0
    · rw [cal_e hb, if_neg n10] at h
      by_cases zab : nI x = nI y
      · rw [if_pos zab] at h; cases h; exact H0
      · have hxy : x ≠ y := fun z => zab (by rw [z])
        obtain ⟨u, hu, -⟩ := s_X8_isWeight w
        rw [if_neg zab, cal_e hu] at h
        by_cases zu : u = 0
        · rw [if_pos zu] at h; cases h; exact H0
        · rw [if_neg zu] at h
          have ex : (nI x).toInt = (x : Int) := nI_toInt (by omega)
          have ey : (nI y).toInt = (y : Int) := nI_toInt (by omega)
          have k1 : (nI x * (14 : Int32)).toInt = (nI x).toInt * 14 := ti_mulc rfl (by omega)
          have k2 : ((nI x * (14 : Int32)) + nI y).toInt = (nI x * (14 : Int32)).toInt + (nI y).toInt := ti_add (by omega) (by omega)
          have k3 : (nI y * (14 : Int32)).toInt = (nI y).toInt * 14 := ti_mulc rfl (by omega)
          have k4 : ((nI y * (14 : Int32)) + nI x).toInt = (nI y * (14 : Int32)).toInt + (nI x).toInt := ti_add (by omega) (by omega)
          have o3 : okI ((nI x * (14 : Int32)) + nI y) 196 := okI_of (by omega)
          have o4 : okI ((nI y * (14 : Int32)) + nI x) 196 := okI_of (by omega)
          have hJ : ∀ x4 e2, (x4 = 0 ∨ x4 = 1) → J_X4_join_35 (nI x) (nI y) w x4 e2 near ties = some (x4, e2, upd (upd near x (near x ||| ((1 : Int32) <<< (nI y &&& 31)))) y ((upd near x (near x ||| ((1 : Int32) <<< (nI y &&& 31)))) y ||| ((1 : Int32) <<< (nI x &&& 31))), upd (upd ties ((nI x * (14 : Int32)) + nI y).toNatClampNeg w) ((nI y * (14 : Int32)) + nI x).toNatClampNeg w) := by
            intro x4 e2 hx
            unfold J_X4_join_35
            rw [ld_ok _ (in14 (by omega)), sI_ok _ (in14 (by omega)), ld_ok _ (in14 (by omega)), sI_ok _ (in14 (by omega)), sI_ok _ o3, sI_ok _ o4, chk_ok hx, cl14 (by omega), cl14 (by omega)]
          have hBx : B x < 16384 := Nat.lt_of_lt_of_le (N.2.2.1 x) hp
          by_cases bt : (B x).testBit y = true
          · have hj : f_X4_join (nI x) (nI y) w (nI c) near ties = J_X4_join_35 (nI x) (nI y) w 0 (nI c) near ties := by
              unfold f_X4_join
              rw [ld_ok _ (in14 (by omega)), cl14 (by omega), N.2.1 x, cal_e (hasB1 hBx (by omega) bt), if_neg n10]
              rfl
            rw [cal_e (hj.trans (hJ 0 (nI c) (Or.inl rfl)))] at h
            dsimp only at h
            rw [if_pos rfl] at h
            cases h
            exact ⟨jnB B x y, c, jn_net N x1 y1 hxy, rfl, by rw [jn_same N hxy bt]; exact e2⟩
          · have hj : f_X4_join (nI x) (nI y) w (nI c) near ties = J_X4_join_35 (nI x) (nI y) w 1 (nI c + 1) near ties := by
              unfold f_X4_join
              rw [ld_ok _ (in14 (by omega)), cl14 (by omega), N.2.1 x, cal_e (hasB0 hBx (by omega) (bf bt)), if_pos rfl]
              rfl
            rw [cal_e (hj.trans (hJ 1 (nI c + 1) (Or.inr rfl)))] at h
            dsimp only at h
            rw [if_neg n10] at h
            cases h
            exact ⟨jnB B x y, c + 1, jn_net N x1 y1 hxy, nI_1 c, by rw [jn_sum N x1 y1 hxy (bf bt)]; omega⟩
theorem cut_net {n : Nat} {near : Nat → Int32} {edges : Int32} (H : NetE n near edges) (a b : Int32) (ties : Nat → Int32) {r : Int32 × Int32 × (Nat → Int32)} (h : f_X8_cut a b (nI n) edges near ties = some r) : NetE n r.2.2 r.2.1 := by
  have H0 := H
  obtain ⟨B, c, N, rfl, e2⟩ := H
  have hn := N.1
  have hp := p2n hn
  unfold f_X8_cut f_X4_joined at h
  rcases has_n hn a with ha | ⟨x, x1, rfl, ha⟩
  · rw [cal_e ha, if_pos rfl, cal_s, if_pos rfl] at h; cases h; exact H0
  · rw [cal_e ha, if_neg n10] at h
    rcases has_n hn b with hb | ⟨y, y1, rfl, hb⟩
    · rw [cal_e hb, if_pos rfl, cal_s, if_pos rfl] at h; cases h; exact H0
    · rw [cal_e hb, if_neg n10, ld_ok _ (in14 (by omega)), cl14 (by omega), N.2.1 x] at h
      have hBx : B x < 16384 := Nat.lt_of_lt_of_le (N.2.2.1 x) hp
      by_cases bt : (B x).testBit y = true
      · rw [cal_e (hasB1 hBx (by omega) bt), if_neg n10, cal_s, if_neg n10] at h
        have hxy : x ≠ y := fun z => by subst z; rw [N.2.2.2.2.1 x] at bt; cases bt
        have ex : (nI x).toInt = (x : Int) := nI_toInt (by omega)
        have ey : (nI y).toInt = (y : Int) := nI_toInt (by omega)
        have k1 : (nI x * (14 : Int32)).toInt = (nI x).toInt * 14 := ti_mulc rfl (by omega)
        have k2 : ((nI x * (14 : Int32)) + nI y).toInt = (nI x * (14 : Int32)).toInt + (nI y).toInt := ti_add (by omega) (by omega)
        have o3 : okI ((nI x * (14 : Int32)) + nI y) 196 := okI_of (by omega)
        have hs := pt_sum N x1 y1 hxy bt
        have hc : nI c - (1 : Int32) = nI (c - 1) := pk_sub (b := 1) (by omega)
        have hq : f_X4_part (nI x) (nI y) (nI c) near ties = some (ties ((nI x * (14 : Int32)) + nI y).toNatClampNeg, nI c - 1, upd (upd near x (near x &&& (((1 : Int32) <<< (nI y &&& 31)) ^^^ (-1 : Int32)))) y ((upd near x (near x &&& (((1 : Int32) <<< (nI y &&& 31)) ^^^ (-1 : Int32)))) y &&& (((1 : Int32) <<< (nI x &&& 31)) ^^^ (-1 : Int32)))) := by
          unfold f_X4_part
          rw [ld_ok _ (in14 (by omega)), sI_ok _ (in14 (by omega)), ld_ok _ (in14 (by omega)), sI_ok _ (in14 (by omega)), bnd_s, ld_ok _ o3, cl14 (by omega), cl14 (by omega)]
        rw [cal_e hq] at h
        cases h
        exact ⟨ptB B x y, c - 1, pt_net N x1 y1 hxy, hc, by omega⟩
      · rw [cal_e (hasB0 hBx (by omega) (bf bt)), if_pos rfl, cal_s, if_pos rfl] at h
        cases h; exact H0
/-- the reference counts the edges -/
theorem l_c47 {n : Nat} {B : Nat → Nat} {near0 : Nat → Int32} (N : NetN n B near0) (a rw_ tb q : Int32) (bag up : Nat → Int32) : ∀ (f j : Nat), j ≤ n → n - j < f → L_X9_count_47 a (nI n) rw_ tb q near0 bag up f (nI (sm (fun k => pcN (B k)) j)) (nI j) = some (nI (sm (fun k => pcN (B k)) n) / (2 : Int32)) := by
  have hn := N.1
  have hp := p2n hn
  intro f
  induction f with
  | zero => intro j h1 h2; omega
  | succ f ih =>
    intro j hj hf
    rw [L_X9_count_47]
    rcases Nat.lt_or_ge j n with h | h
    · rw [if_neg (nI_ge h (by omega)), ld_ok _ (in14 (by omega)), cl14 (by omega), N.2.1 j, cal_e (bits_n (Nat.lt_of_lt_of_le (N.2.2.1 j) hp)), bnd_s, bnd_s, nI_1, nI_add]
      exact ih (j + 1) (by omega) (by omega)
    · have e : j = n := by omega
      subst e
      rw [if_pos (nI_le (Nat.le_refl _) (by omega))]
theorem count_rel {n : Nat} {near0 : Nat → Int32} {edges : Int32} (H : NetE n near0 edges) {os held rowed bs tb : Int32} {knots row masks ups bag up : Nat → Int32} (T : OrdT n os held rowed knots row) (TB : BagT n bs tb masks ups bag up) (q a : Int32) : Rel (f_X8_count a (nI n) edges near0 os bs masks ups q) (f_X9_count a (nI n) rowed tb q near0 bag up) (fun x m => m = x) := by
  obtain ⟨B, c, N, rfl, e2⟩ := H
  have hn := N.1
  have eo : rowed = os := by
    obtain ⟨r, _, rfl, rfl, _⟩ := T
    rfl
  have eb : tb = bs := TB.1.symm
  unfold f_X8_count f_X9_count
  refine rr (bnd_s _ _) ?_
  by_cases a0 : a = 0
  · exact rl (if_pos a0) (rr (if_pos a0) (rel_some rfl))
  · refine rl (if_neg a0) (rr (if_neg a0) ?_)
    by_cases a1 : a = 1
    · have hle := sm_bd (g := fun k => pcN (B k)) (k := n) (c := 14) (fun i _ => pcN_le (B i))
      have h14 : n * 14 ≤ 14 * 14 := Nat.mul_le_mul_right 14 hn
      have es : sm (fun k => pcN (B k)) 14 = sm (fun k => pcN (B k)) n := sm_top hn fun i hi => by
        rw [N.2.2.2.1 i hi]; exact pcU_0 14
      have e3 : 2 * c = sm (fun k => pcN (B k)) n := by rw [← es]; exact e2
      have hd : nI (sm (fun k => pcN (B k)) n) / (2 : Int32) = nI c := by
        rw [show (2 : Int32) = nI 2 from rfl, pk_div (by omega) (by decide) (by decide)]
        congr 1; omega
      have hl := l_c47 N a rowed tb q bag up NN 0 (by omega) (by show n - 0 < 32768; omega)
      rw [hd] at hl
      exact rl (if_pos a1) (rr (if_pos a1) (rr (bnd_s _ _) (rr hl (rel_some rfl))))
    · refine rl (if_neg a1) (rr (if_neg a1) ?_)
      by_cases a2 : a = 2
      · exact rl (if_pos a2) (rr (if_pos a2) (rel_some eo))
      · refine rl (if_neg a2) (rr (if_neg a2) ?_)
        by_cases a3 : a = 3
        · exact rl (if_pos a3) (rr (if_pos a3) (rel_some eb))
        · refine rl (if_neg a3) (rr (if_neg a3) ?_)
          by_cases a4 : a = 4
          · exact rl (if_pos a4) (rr (if_pos a4) (rel_some rfl))
          · refine rl (if_neg a4) (rr (if_neg a4) ?_)
            by_cases a5 : a = 5
            · refine rl (if_pos a5) (rr (if_pos a5) ?_)
              rcases isSound_n hn near0 TB with ⟨s1, s2⟩ | ⟨s1, s2, s3, s4⟩
              · refine rl (cal_e s1) (rl (if_pos rfl) ?_)
                rcases s2 with z | ⟨z1, z2, r, z3, z4⟩
                · exact rr (if_pos z) (rel_some rfl)
                · exact rr (if_neg z1) (rr (cal_e z4) (rr (if_neg z3) (rel_some rfl)))
              · exact rl (cal_e s1) (rl (if_neg n10) (rr (if_neg s2) (rr (cal_e s4) (rr (if_pos rfl) (rel_some rfl)))))
            · exact rl (if_neg a5) (rr (if_neg a5) (rel_some rfl))
