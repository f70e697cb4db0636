/-! The class's Going, on numbers. -/
def RA (f : Nat → Int32) (A : Nat → Nat) : Prop := ∀ j, j < 14 → f j = nI (A j) ∧ A j < 16384
theorem RA_upd {f : Nat → Int32} {A A' : Nat → Nat} {j x : Nat} (h : RA f A) (hx : x < 16384) (e1 : A' j = x) (e2 : ∀ i, i < 14 → i ≠ j → A' i = A i) : RA (upd f j (nI x)) A' := by
  intro i hi
  by_cases e : i = j
  · subst e; rw [pk_us, e1]; exact ⟨rfl, hx⟩
  · rw [pk_un e, e2 i hi e]; exact h i hi
theorem RA_congr {f : Nat → Int32} {A A' : Nat → Nat} (h : RA f A) (e : ∀ i, i < 14 → A i = A' i) : RA f A' := fun i hi => by rw [← e i hi]; exact h i hi
theorem hasB1 {a k : Nat} (ha : a < 16384) (hk : k < 14) (h : a.testBit k = true) : f_X8_hasBit (nI a) (nI k) = some 1 := by
  rw [hasBit_n (by omega) (by omega), if_pos h]
theorem hasB0 {a k : Nat} (ha : a < 16384) (hk : k < 14) (h : a.testBit k = false) : f_X8_hasBit (nI a) (nI k) = some 0 := by
  rw [hasBit_n (by omega) (by omega), h]; rfl
theorem in14 {k : Nat} (h : k < 14) : okI (nI k) 14 := nI_in (c := k) (N := 14) h (by decide)
theorem cl14 {k : Nat} (h : k < 14) : (nI k).toNatClampNeg = k := nI_clamp (by omega)
theorem ge14 {j : Nat} (h : j < 14) : ¬ (14 : Int32) ≤ nI j := nI_ge (b := 14) h (by decide)
theorem le14 : (14 : Int32) ≤ nI 14 := nI_le (Nat.le_refl 14) (by decide)
theorem n10 : ¬ (1 : Int32) = 0 := by decide
theorem nd2_lt {a : Nat} (h : a < 16384) (b : Nat) : nd a b < 16384 := Nat.lt_of_le_of_lt (nd_le a b) h
/-- the neighbours when v was taken away -/
def tkA (A : Nat → Nat) (v j : Nat) : Nat := if j = v then 0 else if (A v).testBit j = true then nd (A j) (2 ^ v) else A j
theorem l_take {v r left : Nat} (hv : v < 14) (hr : r < 16384) : ∀ (f j : Nat) (near : Nat → Int32) (A : Nat → Nat), j ≤ 14 → 14 - j < f → RA near A → ∃ near', L_X1_takeAway_9 (nI v) f (nI r) (nI j) (nI left) near = some (nI (nd left (2 ^ v)), near') ∧ RA near' (fun i => if i = v then 0 else if j ≤ i ∧ r.testBit i = true then nd (A i) (2 ^ v) else A i) := by
  intro f
  induction f with
  | zero => intro j near A h1 h2; omega
  | succ f ih =>
    intro j near A hj hf R
    rw [L_X1_takeAway_9]
    rcases Nat.lt_or_ge j 14 with h | h
    · rw [if_neg (ge14 h)]
      by_cases b : r.testBit j = true
      · rw [cal_e (hasB1 hr h b), if_neg n10, ld_ok _ (in14 h), sI_ok _ (in14 h), bnd_s, nI_1, cl14 h, (R j h).1, nx_bit1 v (by omega), nx_nd]
        obtain ⟨near', h1, h2⟩ := ih (j + 1) (upd near j (nI (nd (A j) (2 ^ v)))) (fun i => if i = j then nd (A j) (2 ^ v) else A i) (by omega) (by omega) (RA_upd R (nd2_lt (R j h).2 _) (if_pos rfl) (fun i _ e => if_neg e))
        refine ⟨near', h1, RA_congr h2 fun i hi => ?_⟩
        try dsimp only
        by_cases e : i = v
        · rw [if_pos e, if_pos e]
        · rw [if_neg e, if_neg e]
          by_cases ej : i = j
          · subst ej
            rw [if_neg (by omega), if_pos rfl, if_pos ⟨Nat.le_refl _, b⟩]
          · rw [if_neg ej]
            by_cases q : j ≤ i ∧ r.testBit i = true
            · rw [if_pos q, if_pos ⟨by omega, q.2⟩]
            · rw [if_neg q, if_neg (fun z => q ⟨by omega, z.2⟩)]
      · rw [cal_e (hasB0 hr h (bf b)), if_pos rfl, bnd_s, nI_1]
        obtain ⟨near', h1, h2⟩ := ih (j + 1) near A (by omega) (by omega) R
        refine ⟨near', h1, RA_congr h2 fun i hi => ?_⟩
        try dsimp only
        by_cases e : i = v
        · rw [if_pos e, if_pos e]
        · rw [if_neg e, if_neg e]
          by_cases q : j ≤ i ∧ r.testBit i = true
          · have hij : i ≠ j := fun z => by subst z; exact b q.2
            rw [if_pos q, if_pos ⟨by omega, q.2⟩]
          · rw [if_neg q, if_neg (fun z => q ⟨by omega, z.2⟩)]
    · have e : j = 14 := by omega
      subst e
      rw [if_pos le14, sI_ok _ (in14 hv), bnd_s, cl14 hv, nx_bit1 v (by omega), nx_nd]
      refine ⟨_, rfl, RA_upd (x := 0) R (by decide) (if_pos rfl) (fun i hi e => ?_)⟩
      try dsimp only
      rw [if_neg e, if_neg (fun z => by omega)]
theorem take_n {v left : Nat} {near : Nat → Int32} {A : Nat → Nat} (hv : v < 14) (R : RA near A) : ∃ near', f_X1_takeAway (nI v) (nI left) near = some (nI (nd left (2 ^ v)), near') ∧ RA near' (tkA A v) := by
  unfold f_X1_takeAway
  rw [ld_ok _ (in14 hv), bnd_s, bnd_s, cl14 hv, (R v hv).1]
  obtain ⟨near', h1, h2⟩ := l_take (left := left) hv (R v hv).2 NN 0 near A (by omega) (by decide) R
  refine ⟨near', h1, RA_congr h2 fun i hi => ?_⟩
  unfold tkA
  try dsimp only
  by_cases e : i = v
  · rw [if_pos e, if_pos e]
  · rw [if_neg e, if_neg e]
    by_cases q : (A v).testBit i = true
    · rw [if_pos ⟨Nat.zero_le _, q⟩, if_pos q]
    · rw [if_neg (fun z => q z.2), if_neg q]
/-- sums -/
def sm (g : Nat → Nat) : Nat → Nat
  | 0 => 0
  | k + 1 => sm g k + g k
theorem sm_congr {g h : Nat → Nat} {k : Nat} (e : ∀ i, i < k → g i = h i) : sm g k = sm h k := by
  induction k with
  | zero => rfl
  | succ k ih => unfold sm; rw [ih (fun i hi => e i (by omega)), e k (by omega)]
/-- what comes new at j when r was around -/
def frA (A : Nat → Nat) (r j : Nat) : Nat := nd (nd r (A j)) (2 ^ j)
theorem frA_lt {A : Nat → Nat} {r : Nat} (h : r < 16384) (j : Nat) : frA A r j < 16384 := nd2_lt (nd2_lt h _) _
theorem l_letGo {a1 : Int32} {r left e0 : Nat} {A : Nat → Nat} (hr : r < 16384) : ∀ (f j : Nat) (near : Nat → Int32), j ≤ 14 → 14 - j < f → (∀ i, i < 14 → A i < 16384) → RA near (fun i => if i < j ∧ r.testBit i = true then A i ||| frA A r i else A i) → ∃ near', L_X1_letGo_14 a1 f (nI r) (nI j) (nI left) (nI (e0 + sm (fun i => if r.testBit i = true then pcN (frA A r i) else 0) j)) near = some (nI left, nI (e0 + sm (fun i => if r.testBit i = true then pcN (frA A r i) else 0) 14), near') ∧ RA near' (fun i => if r.testBit i = true then A i ||| frA A r i else A i) := by
  intro f
  induction f with
  | zero => intro j near h1 h2; omega
  | succ f ih =>
    intro j near hj hf hA R
    rw [L_X1_letGo_14]
    rcases Nat.lt_or_ge j 14 with h | h
    · rw [if_neg (ge14 h)]
      have Rj := R j h
      try dsimp only at Rj
      rw [if_neg (by omega)] at Rj
      by_cases b : r.testBit j = true
      · rw [cal_e (hasB1 hr h b), if_neg n10, ld_ok _ (in14 h), bnd_s, cl14 h, Rj.1, nx_bit1 j (by omega), nx_nd, nx_nd, cal_e (bitCount_n (m := nd (nd r (A j)) (2 ^ j)) (frA_lt (A := A) hr j)), bnd_s, nI_add, ld_ok _ (in14 h), sI_ok _ (in14 h), bnd_s, nI_1, cl14 h, Rj.1, nx_or]
        have es : e0 + sm (fun i => if r.testBit i = true then pcN (frA A r i) else 0) j + pcN (nd (nd r (A j)) (2 ^ j)) = e0 + sm (fun i => if r.testBit i = true then pcN (frA A r i) else 0) (j + 1) := by
          show _ = e0 + (_ + (if r.testBit j = true then pcN (frA A r j) else 0))
          rw [if_pos b]
          show _ = e0 + (_ + pcN (nd (nd r (A j)) (2 ^ j)))
          omega
        rw [es]
        refine ih (j + 1) _ (by omega) (by omega) hA (RA_upd R (or_lt (hA j h) (frA_lt hr j)) ?_ (fun i hi e => ?_))
        · try dsimp only
          rw [if_pos ⟨by omega, b⟩]; rfl
        · try dsimp only
          by_cases q : i < j ∧ r.testBit i = true
          · rw [if_pos q, if_pos ⟨by omega, q.2⟩]
          · rw [if_neg q, if_neg (fun z => q ⟨by omega, z.2⟩)]
      · rw [cal_e (hasB0 hr h (bf b)), if_pos rfl, bnd_s, nI_1]
        have es : sm (fun i => if r.testBit i = true then pcN (frA A r i) else 0) j = sm (fun i => if r.testBit i = true then pcN (frA A r i) else 0) (j + 1) := by
          show _ = _ + (if r.testBit j = true then pcN (frA A r j) else 0)
          rw [if_neg b]; rfl
        rw [es]
        refine ih (j + 1) near (by omega) (by omega) hA (RA_congr R fun i hi => ?_)
        try dsimp only
        by_cases q : i < j ∧ r.testBit i = true
        · rw [if_pos q, if_pos ⟨by omega, q.2⟩]
        · have q2 : ¬ (i < j + 1 ∧ r.testBit i = true) := by
            rintro ⟨z1, z2⟩
            have hij : i ≠ j := fun w => by subst w; exact b z2
            exact q ⟨by omega, z2⟩
          rw [if_neg q, if_neg q2]
    · have e : j = 14 := by omega
      subst e
      rw [if_pos le14]
      refine ⟨near, rfl, RA_congr R fun i hi => ?_⟩
      try dsimp only
      by_cases q : r.testBit i = true
      · rw [if_pos ⟨hi, q⟩, if_pos q]
      · rw [if_neg (fun z => q z.2), if_neg q]
/-- the neighbours when v went -/
def lgA (A : Nat → Nat) (v j : Nat) : Nat := if (A v).testBit j = true then tkA A v j ||| frA (tkA A v) (A v) j else tkA A v j
/-- the new ends when v went -/
def lgE (A : Nat → Nat) (v : Nat) : Nat := sm (fun i => if (A v).testBit i = true then pcN (frA (tkA A v) (A v) i) else 0) 14
theorem letGo_n {v left e : Nat} {near : Nat → Int32} {A : Nat → Nat} (hv : v < 14) (R : RA near A) : ∃ near', f_X1_letGo (nI v) (nI left) (nI e) near = some (nI (nd left (2 ^ v)), nI (e + lgE A v), near') ∧ RA near' (lgA A v) := by
  unfold f_X1_letGo
  obtain ⟨n1, h1, h2⟩ := take_n (left := left) hv R
  rw [ld_ok _ (in14 hv), bnd_s, cal_e h1, bnd_s, cl14 hv, (R v hv).1]
  obtain ⟨n2, g1, g2⟩ := l_letGo (a1 := nI v) (left := nd left (2 ^ v)) (e0 := e) (A := tkA A v) (R v hv).2 NN 0 n1 (by omega) (by decide) (fun i hi => (h2 i hi).2) (RA_congr h2 fun i hi => by rw [if_neg (by omega)])
  exact ⟨n2, g1, g2⟩
/-! With what is around. -/
def gA (n : Nat) (ar : Nat → Nat → Nat) (G j : Nat) : Nat := if (lm n G).testBit j = true then ar G j else 0
theorem gA_in {n : Nat} (hn : n ≤ 14) {ar : Nat → Nat → Nat} {G j : Nat} (hj : j < n) (g : G.testBit j = false) : gA n ar G j = ar G j := if_pos ((lm_t hn).mpr ⟨hj, g⟩)
theorem gA_out {n : Nat} (hn : n ≤ 14) {ar : Nat → Nat → Nat} {G j : Nat} (h : ¬ (j < n ∧ G.testBit j = false)) : gA n ar G j = 0 := if_neg fun z => h ((lm_t hn).mp z)
theorem lm_or {n : Nat} (hn : n ≤ 14) (G v : Nat) : nd (lm n G) (2 ^ v) = lm n (G ||| 2 ^ v) := by
  have := lm_lt hn G
  apply Nat.eq_of_testBit_eq
  intro i
  rw [Bool.eq_iff_iff, nd2_t (by omega), lm_t hn, lm_t hn, or2_f]
  exact ⟨fun ⟨⟨a, b⟩, c⟩ => ⟨a, b, c⟩, fun ⟨a, b, c⟩ => ⟨⟨a, b⟩, c⟩⟩
theorem lg_step {n : Nat} {B : Nat → Nat} {ar : Nat → Nat → Nat} (A : ArS n B ar) (hn : n ≤ 14) {G v : Nat} (hG : G < 2 ^ n) (hv : v < n) (gv : G.testBit v = false) (j : Nat) : lgA (gA n ar G) v j = gA n ar (G ||| 2 ^ v) j := by
  have A0 := A
  obtain ⟨A1, A2, A3, A4⟩ := A
  have ev : gA n ar G v = ar G v := gA_in hn hv gv
  have lv := ar_lt A0 hn hG hv
  unfold lgA
  rw [ev]
  by_cases ej : j = v
  · subst ej
    rw [if_neg (fun z => (A1 G j j hG hv z).2.1 rfl), gA_out hn (fun z => absurd rfl (or2_f.mp z.2).2)]
    exact if_pos rfl
  · have et : tkA (gA n ar G) v j = if (ar G v).testBit j = true then nd (gA n ar G j) (2 ^ v) else gA n ar G j := by
      unfold tkA
      rw [if_neg ej, ev]
    rw [et]
    by_cases hj : j < n ∧ G.testBit j = false
    · have lj := ar_lt A0 hn hG hj.1
      have eg : gA n ar G j = ar G j := gA_in hn hj.1 hj.2
      have eg2 : gA n ar (G ||| 2 ^ v) j = ar (G ||| 2 ^ v) j := gA_in hn hj.1 (or2_f.mpr ⟨hj.2, fun z => ej z.symm⟩)
      have e3 := fun i => A3 G v j i hG hv hj.1 gv ej
      rw [eg, eg2]
      by_cases c : (ar G v).testBit j = true
      · have cj : (ar G j).testBit v = true := A2 G v j hG hv gv c
        rw [if_pos c, if_pos c]
        apply Nat.eq_of_testBit_eq
        intro i
        have ltk : tkA (gA n ar G) v j = nd (ar G j) (2 ^ v) := by rw [et, if_pos c, eg]
        unfold frA
        rw [ltk, Bool.eq_iff_iff, or_t, e3 i, nd2_t (by omega), nd2_t (Nat.lt_trans (nd2_lt lv _) (by decide)), nd_t (by omega)]
        constructor
        · rintro (⟨a, b⟩ | ⟨⟨a, b⟩, d⟩)
          · exact ⟨fun z => b z.symm, Or.inl a⟩
          · exact ⟨(A1 G v i hG hv a).2.1, Or.inr ⟨cj, a, fun z => d z.symm⟩⟩
        · rintro ⟨a, b | ⟨_, b, d⟩⟩
          · exact Or.inl ⟨b, fun z => a z.symm⟩
          · by_cases q : (nd (ar G j) (2 ^ v)).testBit i = true
            · exact Or.inl ((nd2_t (by omega)).mp q)
            · exact Or.inr ⟨⟨b, bf q⟩, fun z => d z.symm⟩
      · have cj : ¬ (ar G j).testBit v = true := fun z => c (A2 G j v hG hj.1 hj.2 z)
        rw [if_neg c, if_neg c]
        apply Nat.eq_of_testBit_eq
        intro i
        rw [Bool.eq_iff_iff, e3 i]
        constructor
        · intro a
          exact ⟨fun z => by subst z; exact cj a, Or.inl a⟩
        · rintro ⟨a, b | ⟨b, _⟩⟩
          · exact b
          · exact absurd b cj
    · have c : ¬ (ar G v).testBit j = true := fun z => hj ⟨(A1 G v j hG hv z).1, (A1 G v j hG hv z).2.2⟩
      rw [if_neg c, if_neg c, gA_out hn hj, gA_out hn (fun z => hj ⟨z.1, (or2_f.mp z.2).1⟩)]
/-- the state of a Going -/
def GS (n : Nat) (ar : Nat → Nat → Nat) (G : Nat) (left : Int32) (near : Nat → Int32) : Prop := G < 2 ^ n ∧ left = nI (lm n G) ∧ RA near (gA n ar G)
/-- the new ends when v goes -/
def flE (n : Nat) (ar : Nat → Nat → Nat) (G v : Nat) : Nat := lgE (gA n ar G) v
theorem letGo_g {n : Nat} {B : Nat → Nat} {ar : Nat → Nat → Nat} (A : ArS n B ar) (hn : n ≤ 14) {G v e : Nat} {left : Int32} {near : Nat → Int32} (S : GS n ar G left near) (hv : v < n) (gv : G.testBit v = false) : ∃ left' near', f_X1_letGo (nI v) left (nI e) near = some (left', nI (e + flE n ar G v), near') ∧ GS n ar (G ||| 2 ^ v) left' near' := by
  obtain ⟨hG, rfl, R⟩ := S
  obtain ⟨near', h1, h2⟩ := letGo_n (left := lm n G) (e := e) (v := v) (by omega) R
  rw [lm_or hn] at h1
  exact ⟨_, near', h1, lt2n hG hv, rfl, RA_congr h2 fun i _ => lg_step A hn hG hv gv i⟩
theorem ar_zero {B : Nat → Nat} {k r : Nat} (h : IsAr B 0 k r) (hB : (B k).testBit k = false) : r = B k := by
  obtain ⟨S, hS, c, m, e⟩ := h
  apply Nat.eq_of_testBit_eq
  intro i
  rw [Bool.eq_iff_iff, e i]
  have ct : Cl B 0 k (B k ||| 2 ^ k) := ⟨or2_t.mpr (Or.inr rfl), fun j hj => or2_t.mpr (Or.inl hj), fun v _ hg => by rw [Nat.zero_testBit] at hg; cases hg⟩
  constructor
  · rintro ⟨a, _, b⟩
    rcases or2_t.mp (m _ ct i a) with z | z
    · exact z
    · exact absurd z.symm b
  · intro a
    refine ⟨c.2.1 i a, Nat.zero_testBit i, fun z => ?_⟩
    subst z; rw [hB] at a; cases a
theorem start_g {n : Nat} {B : Nat → Nat} {near0 : Nat → Int32} (N : NetN n B near0) (left ne : Int32) (near : Nat → Int32) : ∃ left' near', f_X1_start left ne near (nI n) near0 = some (left', 0, near') ∧ GS n (arN near0 (nI n)) 0 left' near' := by
  have hn := N.1
  unfold f_X1_start
  have he : f_X4_everyKnot (nI n) = some (nI (lm n 0)) := by
    unfold f_X4_everyKnot
    rw [all_v hn]
    congr 2
    apply Nat.eq_of_testBit_eq
    intro i
    rw [Bool.eq_iff_iff, lm_t hn, tb_all, decide_eq_true_iff]
    exact ⟨fun z => ⟨z, Nat.zero_testBit i⟩, fun z => z.1⟩
  rw [bnd_s, cal_e he, bnd_s, bnd_s]
  have hp := p2n hn
  refine ⟨_, _, rfl, Nat.two_pow_pos n, rfl, fun j hj => ?_⟩
  rw [pk_cpy_in (Nat.zero_le _) (by omega), show 0 + (j - 0) = j from by omega, N.2.1 j]
  have e : B j = gA n (arN near0 (nI n)) 0 j := by
    rcases Nat.lt_or_ge j n with z | z
    · rw [gA_in hn z (Nat.zero_testBit j), ar_zero (arN_ar N (Nat.two_pow_pos n) z).2.2 (N.2.2.2.2.1 j)]
    · rw [gA_out hn (fun q => by omega), N.2.2.2.1 j z]
  rw [← e]
  exact ⟨rfl, Nat.lt_of_lt_of_le (N.2.2.1 j) hp⟩
/-! The loneliest. -/
def Lon (left : Nat) (A : Nat → Nat) (k : Nat) : Prop := left.testBit k = true ∧ ∀ j, left.testBit j = true → pcN (A k) ≤ pcN (A j) ∧ (pcN (A j) = pcN (A k) → k ≤ j)
theorem Lon_uniq {left : Nat} {A : Nat → Nat} {k k' : Nat} (h : Lon left A k) (h' : Lon left A k') : k = k' := by
  have h1 := h.2 k' h'.1
  have h2 := h'.2 k h.1
  have e : pcN (A k) = pcN (A k') := by omega
  have h3 := h1.2 e.symm
  have h4 := h2.2 e
  omega
/-- the loneliest of those below j -/
def LonJ (left : Nat) (A : Nat → Nat) (j k : Nat) : Prop := k < j ∧ left.testBit k = true ∧ ∀ i, i < j → left.testBit i = true → pcN (A k) ≤ pcN (A i) ∧ (pcN (A i) = pcN (A k) → k ≤ i)
theorem LonJ_skip {left : Nat} {A : Nat → Nat} {j k : Nat} (h : LonJ left A j k) (hj : left.testBit j = true → pcN (A k) ≤ pcN (A j)) : LonJ left A (j + 1) k := by
  refine ⟨by have := h.1; omega, h.2.1, fun i hi li => ?_⟩
  by_cases e : i = j
  · subst e; exact ⟨hj li, fun _ => by have := h.1; omega⟩
  · exact h.2.2 i (by omega) li
theorem LonJ_new {left : Nat} {A : Nat → Nat} {j k : Nat} (h : LonJ left A j k) (lj : left.testBit j = true) (hlt : pcN (A j) < pcN (A k)) : LonJ left A (j + 1) j := by
  refine ⟨by omega, lj, fun i hi li => ?_⟩
  by_cases e : i = j
  · subst e; exact ⟨Nat.le_refl _, fun _ => Nat.le_refl _⟩
  · have := h.2.2 i (by omega) li
    exact ⟨by omega, fun z => by omega⟩
theorem LonJ_first {left : Nat} {A : Nat → Nat} {j : Nat} (h : ∀ i, i < j → left.testBit i = false) (lj : left.testBit j = true) : LonJ left A (j + 1) j := by
  refine ⟨by omega, lj, fun i hi li => ?_⟩
  by_cases e : i = j
  · subst e; exact ⟨Nat.le_refl _, fun _ => Nat.le_refl _⟩
  · rw [h i (by omega)] at li; cases li
theorem LonJ_all {left : Nat} {A : Nat → Nat} {j k : Nat} (h : LonJ left A j k) (hl : ∀ i, left.testBit i = true → i < j) : Lon left A k := ⟨h.2.1, fun i li => h.2.2 i (hl i li) li⟩
theorem l_lon {left : Nat} {near : Nat → Int32} {A : Nat → Nat} (hl : left < 16384) (R : RA near A) (hA : ∀ j, left.testBit j = true → pcN (A j) < 14) : ∀ (f j : Nat) (x1 x2 : Nat), j ≤ 14 → 14 - j < f → ((x1 = 0 ∧ x2 = 14 ∧ ∀ i, i < j → left.testBit i = false) ∨ (LonJ left A j x1 ∧ x2 = pcN (A x1))) → ∃ k, k < 14 ∧ L_X1_loneliest_7 (nI left) near f (nI x1) (nI x2) (nI j) = some (nI k) ∧ (left ≠ 0 → Lon left A k) := by
  intro f
  induction f with
  | zero => intro j x1 x2 h1 h2; omega
  | succ f ih =>
    intro j x1 x2 hj hf hI
    rw [L_X1_loneliest_7]
    rcases Nat.lt_or_ge j 14 with h | h
    · rw [if_neg (ge14 h)]
      by_cases b : left.testBit j = true
      · rw [cal_e (hasB1 hl h b), if_neg n10, ld_ok _ (in14 h), cl14 h, (R j h).1, cal_e (bitCount_n (R j h).2), bnd_s]
        have hb := hA j b
        have hx2 : x2 ≤ 14 := by
          rcases hI with z | z
          · omega
          · have := pcN_le (A x1); omega
        rcases Nat.lt_or_ge (pcN (A j)) x2 with c | c
        · rw [if_neg (nI_ge c (by omega)), bnd_s, bnd_s, bnd_s, nI_1]
          refine ih (j + 1) j (pcN (A j)) (by omega) (by omega) (Or.inr ⟨?_, rfl⟩)
          rcases hI with ⟨_, _, z⟩ | ⟨z1, z2⟩
          · exact LonJ_first z b
          · exact LonJ_new z1 b (by omega)
        · rw [if_pos (nI_le c (by omega)), bnd_s, nI_1]
          refine ih (j + 1) x1 x2 (by omega) (by omega) ?_
          rcases hI with ⟨_, z, _⟩ | ⟨z1, z2⟩
          · omega
          · exact Or.inr ⟨LonJ_skip z1 (fun _ => by omega), z2⟩
      · rw [cal_e (hasB0 hl h (bf b)), if_pos rfl, bnd_s, nI_1]
        refine ih (j + 1) x1 x2 (by omega) (by omega) ?_
        rcases hI with ⟨z1, z2, z3⟩ | ⟨z1, z2⟩
        · refine Or.inl ⟨z1, z2, fun i hi => ?_⟩
          by_cases e : i = j
          · subst e; exact bf b
          · exact z3 i (by omega)
        · exact Or.inr ⟨LonJ_skip z1 (fun z => absurd z b), z2⟩
    · have e : j = 14 := by omega
      subst e
      rw [if_pos le14]
      rcases hI with ⟨z1, z2, z3⟩ | ⟨z1, z2⟩
      · refine ⟨x1, by omega, rfl, fun h0 => ?_⟩
        exfalso
        obtain ⟨i, hi⟩ := ex_bit h0
        rw [z3 i (tb_lt hl hi)] at hi; cases hi
      · exact ⟨x1, z1.1, rfl, fun _ => LonJ_all z1 (fun i hi => tb_lt hl hi)⟩
theorem lon_n {left : Nat} {near : Nat → Int32} {A : Nat → Nat} (hl : left < 16384) (R : RA near A) (hA : ∀ j, left.testBit j = true → pcN (A j) < 14) : ∃ k, k < 14 ∧ f_X1_loneliest (nI left) near = some (nI k) ∧ (left ≠ 0 → Lon left A k) := by
  unfold f_X1_loneliest
  rw [bnd_s, bnd_s, bnd_s]
  obtain ⟨k, h1, h2, h3⟩ := l_lon hl R hA NN 0 0 14 (by omega) (by decide) (Or.inl ⟨rfl, rfl, fun i hi => by omega⟩)
  exact ⟨k, h1, h2, h3⟩
