/-! fills. -/
theorem sm_swap (m : Nat → Nat → Nat) : ∀ N, sm (fun i => sm (m i) N) N = sm (fun i => sm (m i) i) N + sm (fun i => sm (fun b => m b i) i) N + sm (fun i => m i i) N := by
  intro N
  induction N with
  | zero => rfl
  | succ N ih =>
    have e1 : sm (fun i => sm (m i) (N + 1)) N = sm (fun i => sm (m i) N) N + sm (fun i => m i N) N := by
      rw [← sm_add]; rfl
    show sm (fun i => sm (m i) (N + 1)) N + (sm (m N) N + m N N) = (sm (fun i => sm (m i) i) N + sm (m N) N) + (sm (fun i => sm (fun b => m b i) i) N + sm (fun b => m b N) N) + (sm (fun i => m i i) N + m N N)
    rw [e1, ih]
    omega
theorem sm_double {m : Nat → Nat → Nat} (hs : ∀ a b, m a b = m b a) (h0 : ∀ a, m a a = 0) (N : Nat) : sm (fun i => sm (m i) N) N = 2 * sm (fun i => sm (m i) i) N := by
  rw [sm_swap]
  have e1 : sm (fun i => sm (fun b => m b i) i) N = sm (fun i => sm (m i) i) N := sm_congr fun i _ => sm_congr fun b _ => hs b i
  have e2 : sm (fun i => m i i) N = 0 := by
    have := sm_bd (g := fun i => m i i) (k := N) (c := 0) (fun i _ => by rw [h0]; exact Nat.le_refl _)
    omega
  omega
/-- whether a pair around v lacks -/
def lk (ar : Nat → Nat → Nat) (G v a b : Nat) : Nat := if (ar G v).testBit a = true ∧ (ar G v).testBit b = true ∧ a ≠ b ∧ (ar G a).testBit b = false then 1 else 0
/-- how many pairs around v lack -/
def prs (n : Nat) (ar : Nat → Nat → Nat) (G v : Nat) : Nat := sm (fun a => sm (lk ar G v a) a) n
theorem sm_top {g : Nat → Nat} {n m : Nat} (h : n ≤ m) (hz : ∀ i, n ≤ i → g i = 0) : sm g m = sm g n := by
  induction m with
  | zero => rw [show n = 0 from by omega]
  | succ m ih =>
    rcases Nat.lt_or_ge m n with z | z
    · rw [show n = m + 1 from by omega]
    · show sm g m + g m = _
      rw [ih z, hz m z]; rfl
theorem flE_eq {n : Nat} {B : Nat → Nat} {ar : Nat → Nat → Nat} (A : ArS n B ar) (hn : n ≤ 14) {G v : Nat} (hG : G < 2 ^ n) (hv : v < n) (gv : G.testBit v = false) : flE n ar G v = 2 * prs n ar G v := by
  have A0 := A
  obtain ⟨A1, A2, A3, A4⟩ := A
  have ev : gA n ar G v = ar G v := gA_in hn hv gv
  have lv := ar_lt A0 hn hG hv
  have hsym : ∀ a b, lk ar G v a b = lk ar G v b a := by
    intro a b
    unfold lk
    by_cases c : (ar G v).testBit a = true ∧ (ar G v).testBit b = true ∧ a ≠ b ∧ (ar G a).testBit b = false
    · obtain ⟨c1, c2, c3, c4⟩ := c
      have qb := A1 G v b hG hv c2
      rw [if_pos ⟨c1, c2, c3, c4⟩, if_pos ⟨c2, c1, fun z => c3 z.symm, bf fun z => by rw [A2 G b a hG qb.1 qb.2.2 z] at c4; cases c4⟩]
    · rw [if_neg c]
      refine (if_neg fun d => c ?_).symm
      obtain ⟨d1, d2, d3, d4⟩ := d
      have qa := A1 G v a hG hv d2
      exact ⟨d2, d1, fun z => d3 z.symm, bf fun z => by rw [A2 G a b hG qa.1 qa.2.2 z] at d4; cases d4⟩
  have h0 : ∀ a, lk ar G v a a = 0 := fun a => if_neg fun c => c.2.2.1 rfl
  have e1 : flE n ar G v = sm (fun i => sm (lk ar G v i) 14) 14 := by
    unfold flE lgE
    refine sm_congr fun i hi => ?_
    rw [ev]
    by_cases c : (ar G v).testBit i = true
    · have qi := A1 G v i hG hv c
      have li := ar_lt A0 hn hG qi.1
      rw [if_pos c]
      have et : tkA (gA n ar G) v i = nd (ar G i) (2 ^ v) := by
        unfold tkA
        rw [if_neg qi.2.1, ev, if_pos c, gA_in hn qi.1 qi.2.2]
      have ef : pcN (frA (tkA (gA n ar G) v) (ar G v) i) = sm (fun b => if (frA (tkA (gA n ar G) v) (ar G v) i).testBit b = true then 1 else 0) 14 := (sm_pc _ 14).symm
      rw [ef]
      refine sm_congr fun b _ => ?_
      have hb : (frA (tkA (gA n ar G) v) (ar G v) i).testBit b = true ↔ ((ar G v).testBit i = true ∧ (ar G v).testBit b = true ∧ i ≠ b ∧ (ar G i).testBit b = false) := by
        unfold frA
        rw [et, nd2_t (Nat.lt_trans (nd2_lt lv _) (by decide)), nd_t (by omega)]
        constructor
        · rintro ⟨⟨x, y⟩, z⟩
          refine ⟨c, x, z, bf fun w => ?_⟩
          have := (nd2_t (a := ar G i) (v := v) (i := b) (by omega)).mpr ⟨w, fun q => (A1 G v b hG hv x).2.1 q.symm⟩
          rw [y] at this; cases this
        · rintro ⟨_, x, z, w⟩
          refine ⟨⟨x, bf fun q => ?_⟩, z⟩
          rw [((nd2_t (by omega)).mp q).1] at w; cases w
      unfold lk
      by_cases d : (ar G v).testBit i = true ∧ (ar G v).testBit b = true ∧ i ≠ b ∧ (ar G i).testBit b = false
      · rw [if_pos (hb.mpr d), if_pos d]
      · rw [if_neg (fun z => d (hb.mp z)), if_neg d]
    · rw [if_neg c]
      have := sm_bd (g := lk ar G v i) (k := 14) (c := 0) (fun b _ => by
        unfold lk
        rw [if_neg (fun d => c d.1)]; exact Nat.le_refl _)
      omega
  rw [e1, sm_double hsym h0]
  congr 1
  unfold prs
  refine sm_top hn fun i hi => ?_
  have := sm_bd (g := lk ar G v i) (k := i) (c := 0) (fun b _ => by
    unfold lk
    rw [if_neg (fun d => by have := (A1 G v i hG hv d.1).1; omega)]; exact Nat.le_refl _)
  omega
/-- the fills of the first i of a row -/
def fls (n : Nat) (ar : Nat → Nat → Nat) (row : Nat → Int32) : Nat → Nat := sm (fun j => prs n ar (rmN row j) (row j).toNatClampNeg)
theorem cl_fills {n : Nat} {B : Nat → Nat} {near0 : Nat → Int32} (N : NetN n B near0) {knots : Nat → Int32} (hR : RowN n knots n) (hp : pcN (rmN knots n) = n) : ∀ (m i f : Nat) (left : Int32) (near : Nat → Int32), i + m = n → m < f → GS n (arN near0 (nI n)) (rmN knots i) left near → ∃ a b c, L_X8_fills_32 (nI n) near0 (nI n) knots f (nI i) left (nI (2 * fls n (arN near0 (nI n)) knots i)) near = some (nI (2 * fls n (arN near0 (nI n)) knots n) / (2 : Int32), a, b, c) := by
  have hn := N.1
  have A := arS_n N
  intro m
  induction m with
  | zero =>
    intro i f left near hi hf S
    obtain ⟨f, rfl⟩ := Nat.exists_eq_succ_of_ne_zero (show f ≠ 0 by omega)
    have e : i = n := by omega
    subst e
    refine ⟨left, nI (2 * fls i (arN near0 (nI i)) knots i), near, ?_⟩
    rw [L_X8_fills_32, if_pos (nI_le (Nat.le_refl _) (by omega))]
  | succ m ih =>
    intro i f left near hi hf S
    obtain ⟨f, rfl⟩ := Nat.exists_eq_succ_of_ne_zero (show f ≠ 0 by omega)
    obtain ⟨k, k1, k2, k3, _⟩ := Ord_new hn hR hp i (by omega)
    obtain ⟨left', near', g1, g2⟩ := letGo_g (e := 2 * fls n (arN near0 (nI n)) knots i) A hn S k1 k3
    have er : rmN knots (i + 1) = rmN knots i ||| 2 ^ k := by
      show rmN knots i ||| 2 ^ (knots i).toNatClampNeg = _
      rw [k2, nI_clamp (by omega)]
    rw [← er] at g2
    have ee : 2 * fls n (arN near0 (nI n)) knots i + flE n (arN near0 (nI n)) (rmN knots i) k = 2 * fls n (arN near0 (nI n)) knots (i + 1) := by
      show _ = 2 * (fls n (arN near0 (nI n)) knots i + prs n (arN near0 (nI n)) (rmN knots i) (knots i).toNatClampNeg)
      rw [k2, nI_clamp (by omega), flE_eq A hn S.1 k1 k3]; omega
    rw [ee] at g1
    obtain ⟨a, b, c, h1⟩ := ih (i + 1) f left' near' (by omega) (by omega) g2
    refine ⟨a, b, c, ?_⟩
    rw [L_X8_fills_32, if_neg (nI_ge (by omega) (by omega)), ld_ok _ (in14 (by omega)), cl14 (by omega), k2, cal_e g1, bnd_s, nI_1]
    exact h1
theorem l_m51 {n : Nat} {B : Nat → Nat} {near0 : Nat → Int32} (N : NetN n B near0) (rowed x3 : Int32) (row : Nat → Int32) {G v a : Nat} (hG : G < 2 ^ n) (hv : v < n) (ha : a < n) (kk : Int32 → Int32 → Int32 → Int32 → Int32 → Option Int32) : ∀ (f j e : Nat), j ≤ a → a - j < f → L_X9_fills_51 (nI n) rowed near0 row kk f (nI (e + sm (lk (arN near0 (nI n)) G v a) j)) (nI G) x3 (nI (arN near0 (nI n) G v)) (nI a) (nI j) = kk (nI (e + sm (lk (arN near0 (nI n)) G v a) a)) (nI G) x3 (nI (arN near0 (nI n) G v)) (nI (a + 1)) := by
  have hn := N.1
  have lv := (arN_ar N hG hv).1
  obtain ⟨a1, a2, _⟩ := arN_ar N hG ha
  intro f
  induction f with
  | zero => intro j e h1 h2; omega
  | succ f ih =>
    intro j e hj hf
    rw [L_X9_fills_51]
    rcases Nat.lt_or_ge j a with h | h
    · have nxt := ih (j + 1) e (by omega) (by omega)
      have es : sm (lk (arN near0 (nI n)) G v a) (j + 1) = sm (lk (arN near0 (nI n)) G v a) j + lk (arN near0 (nI n)) G v a j := rfl
      rw [if_neg (nI_ge h (by omega))]
      by_cases b1 : (arN near0 (nI n) G v).testBit a = true
      · rw [if_pos ((nx_has1 (by omega) (by omega)).mpr b1)]
        by_cases b2 : (arN near0 (nI n) G v).testBit j = true
        · rw [if_pos ((nx_has1 (by omega) (by omega)).mpr b2), cal_e a2]
          by_cases b3 : (arN near0 (nI n) G a).testBit j = false
          · have el : lk (arN near0 (nI n)) G v a j = 1 := if_pos ⟨b1, b2, by omega, b3⟩
            rw [el] at es
            rw [es] at nxt
            rw [if_pos ((nx_has0 (by omega) (by omega)).mpr b3), bnd_s, bnd_s, nI_1, nI_1]
            exact nxt
          · have el : lk (arN near0 (nI n)) G v a j = 0 := if_neg fun d => b3 d.2.2.2
            rw [el, Nat.add_zero] at es
            rw [es] at nxt
            rw [if_neg (fun z => b3 ((nx_has0 (by omega) (by omega)).mp z)), bnd_s, nI_1]
            exact nxt
        · have el : lk (arN near0 (nI n)) G v a j = 0 := if_neg fun d => b2 d.2.1
          rw [el, Nat.add_zero] at es
          rw [es] at nxt
          rw [if_neg (fun z => b2 ((nx_has1 (by omega) (by omega)).mp z)), bnd_s, nI_1]
          exact nxt
      · have el : lk (arN near0 (nI n)) G v a j = 0 := if_neg fun d => b1 d.1
        rw [el, Nat.add_zero] at es
        rw [es] at nxt
        rw [if_neg (fun z => b1 ((nx_has1 (by omega) (by omega)).mp z)), bnd_s, nI_1]
        exact nxt
    · have e2 : j = a := by omega
      subst e2
      rw [if_pos (nI_le (Nat.le_refl _) (by omega)), bnd_s, nI_1]
theorem l_m39 {n : Nat} {B : Nat → Nat} {near0 : Nat → Int32} (N : NetN n B near0) (rowed : Int32) {row : Nat → Int32} {G v i : Nat} (hG : G < 2 ^ n) (hv : v < n) (hi : i < 14) (hr : row i = nI v) (kk : Int32 → Int32 → Int32 → Option Int32) : ∀ (f j e : Nat), j ≤ n → n - j < f → L_X9_fills_39 (nI n) rowed near0 row kk f (nI (e + sm (fun a => sm (lk (arN near0 (nI n)) G v a) a) j)) (nI G) (nI i) (nI (arN near0 (nI n) G v)) (nI j) = kk (nI (e + prs n (arN near0 (nI n)) G v)) (nI (G ||| 2 ^ v)) (nI (i + 1)) := by
  have hn := N.1
  intro f
  induction f with
  | zero => intro j e h1 h2; omega
  | succ f ih =>
    intro j e hj hf
    rw [L_X9_fills_39]
    rcases Nat.lt_or_ge j n with h | h
    · rw [if_neg (nI_ge h (by omega)), bnd_s]
      have := l_m51 N rowed (nI i) row hG hv h (fun y0 y1 y2 y3 y4 => L_X9_fills_39 (nI n) rowed near0 row kk f y0 y1 y2 y3 y4) NN 0 (e + sm (fun a => sm (lk (arN near0 (nI n)) G v a) a) j) (by omega) (by show j - 0 < 32768; omega)
      refine Eq.trans this ?_
      rw [Nat.add_assoc]
      exact ih (j + 1) e (by omega) (by omega)
    · have e2 : j = n := by omega
      subst e2
      rw [if_pos (nI_le (Nat.le_refl _) (by omega)), ld_ok _ (in14 hi), cl14 hi, hr, bnd_s, bnd_s, nI_1, nx_bit1 v (by omega), nx_or]
      rfl
theorem m_fills {n : Nat} {B : Nat → Nat} {near0 : Nat → Int32} (N : NetN n B near0) {row : Nat → Int32} (hR : RowN n row n) : ∀ (m i f : Nat), i + m = n → m < f → L_X9_fills_15 (nI n) (nI n) near0 row f (nI (fls n (arN near0 (nI n)) row i)) (nI (rmN row i)) (nI i) = some (nI (fls n (arN near0 (nI n)) row n)) := by
  have hn := N.1
  intro m
  induction m with
  | zero =>
    intro i f hi hf
    obtain ⟨f, rfl⟩ := Nat.exists_eq_succ_of_ne_zero (show f ≠ 0 by omega)
    have e : i = n := by omega
    subst e
    rw [L_X9_fills_15, if_pos (nI_le (Nat.le_refl _) (by omega))]
  | succ m ih =>
    intro i f hi hf
    obtain ⟨f, rfl⟩ := Nat.exists_eq_succ_of_ne_zero (show f ≠ 0 by omega)
    obtain ⟨k, k1, k2⟩ := hR i (by omega)
    have hG := rmN_lt2 hn hR i (by omega)
    obtain ⟨a1, a2, _⟩ := arN_ar N hG k1
    have er : rmN row (i + 1) = rmN row i ||| 2 ^ k := by
      show rmN row i ||| 2 ^ (row i).toNatClampNeg = _
      rw [k2, nI_clamp (by omega)]
    have ef : fls n (arN near0 (nI n)) row (i + 1) = fls n (arN near0 (nI n)) row i + prs n (arN near0 (nI n)) (rmN row i) k := by
      show fls n (arN near0 (nI n)) row i + prs n (arN near0 (nI n)) (rmN row i) (row i).toNatClampNeg = _
      rw [k2, nI_clamp (by omega)]
    have h39 := l_m39 N (nI n) hG k1 (i := i) (by omega) k2 (fun y0 y1 y2 => L_X9_fills_15 (nI n) (nI n) near0 row f y0 y1 y2) NN 0 (fls n (arN near0 (nI n)) row i) (by omega) (by show n - 0 < 32768; omega)
    rw [L_X9_fills_15, if_neg (nI_ge (by omega) (by omega)), ld_ok _ (in14 (by omega)), cl14 (by omega), k2, cal_e a2, bnd_s, bnd_s]
    refine Eq.trans h39 ?_
    rw [← er, ← ef]
    exact ih (i + 1) f (by omega) (by omega)
theorem fls_congr {n : Nat} {ar : Nat → Nat → Nat} {f g : Nat → Int32} {i : Nat} (e : ∀ j, j < i → f j = g j) : fls n ar f i = fls n ar g i := sm_congr fun j hj => by
  rw [e j hj, rmN_congr j (fun l hl => e l (by omega))]
theorem lk_le (ar : Nat → Nat → Nat) (G v a b : Nat) : lk ar G v a b ≤ 1 := by
  unfold lk; split <;> omega
theorem fls_le {n : Nat} (hn : n ≤ 14) (ar : Nat → Nat → Nat) (row : Nat → Int32) : fls n ar row n ≤ 14 * (14 * 14) := by
  have h1 : ∀ G v, prs n ar G v ≤ 14 * 14 := fun G v => by
    have := sm_bd (g := fun a => sm (lk ar G v a) a) (k := n) (c := 14) (fun a ha => by
      have := sm_bd (g := lk ar G v a) (k := a) (c := 1) (fun b _ => lk_le ar G v a b)
      omega)
    have h2 : n * 14 ≤ 14 * 14 := Nat.mul_le_mul_right 14 hn
    unfold prs; omega
  have := sm_bd (g := fun j => prs n ar (rmN row j) (row j).toNatClampNeg) (k := n) (c := 14 * 14) (fun j _ => h1 _ _)
  have h2 : n * (14 * 14) ≤ 14 * (14 * 14) := Nat.mul_le_mul_right _ hn
  unfold fls; omega
theorem fills_rel {n : Nat} {B : Nat → Nat} {near0 : Nat → Int32} (N : NetN n B near0) {os held rowed : Int32} {knots row : Nat → Int32} (T : OrdT n os held rowed knots row) (left ne : Int32) (near : Nat → Int32) : Rel (f_X8_fills (nI n) near0 os knots left ne near) (f_X9_fills (nI n) rowed near0 row) (fun x m => m = x.1) := by
  have hn := N.1
  obtain ⟨r, hr, rfl, rfl, e, hR, rfl, hp⟩ := T
  unfold f_X8_fills f_X9_fills f_X9_isOrder
  by_cases c : r = n
  · subst c
    refine rl (if_pos rfl) (rr (cal_e (if_pos rfl)) (rr (if_neg n10) ?_))
    have hRk : RowN r knots r := fun j hj => by
      obtain ⟨k, k1, k2⟩ := hR j hj
      exact ⟨k, k1, by rw [e j hj]; exact k2⟩
    have erm : rmN knots r = rmN row r := rmN_congr r e
    obtain ⟨l1, n1, h1, S⟩ := start_g N left ne near
    obtain ⟨a, b, cc, g1⟩ := cl_fills N hRk (by rw [erm]; exact hp) r 0 NN l1 n1 (by omega) (by show r < 32768; omega) S
    have g2 := m_fills N hR r 0 NN (by omega) (by show r < 32768; omega)
    have hle := fls_le hn (arN near0 (nI r)) knots
    have ed : nI (2 * fls r (arN near0 (nI r)) knots r) / (2 : Int32) = nI (fls r (arN near0 (nI r)) knots r) := by
      rw [show (2 : Int32) = nI 2 from rfl, pk_div (by omega) (by decide) (by decide)]
      congr 1; omega
    rw [ed] at g1
    refine rl (cal_e h1) (rl (bnd_s _ _) (rl g1 (rr (bnd_s _ _) (rr (bnd_s _ _) (rr (bnd_s _ _) (rr g2 (rel_some ?_)))))))
    rw [fls_congr e]
  · have c2 : ¬ nI r = nI n := fun w => c ((nI_eq (by omega) (by omega)).mp w)
    exact rl (if_neg c2) (rr (cal_e (if_neg c2)) (rr (if_pos rfl) (rel_some rfl)))
