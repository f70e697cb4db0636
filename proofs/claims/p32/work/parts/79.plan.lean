theorem si_a (f g : Nat → Int) : ∀ m, si m (fun i => f i + g i) = si m f + si m g := by
  intro m
  induction m with
  | zero => rfl
  | succ m ih => rw [si, si, si, ih]; omega
theorem si_0 : ∀ m, si m (fun _ => 0) = 0 := by
  intro m
  induction m with
  | zero => rfl
  | succ m ih => rw [si, ih]; rfl
theorem si_s (f : Nat → Nat → Int) (n : Nat) : ∀ m, si m (fun i => si n (fun k => f i k)) = si n (fun k => si m (fun i => f i k)) := by
  intro m
  induction m with
  | zero => exact (si_0 n).symm
  | succ m ih =>
    rw [si, ih, ← si_a]
    rfl
theorem si_m (c : Int) (f : Nat → Int) : ∀ m, si m (fun i => c * f i) = c * si m f := by
  intro m
  induction m with
  | zero => exact (Int.mul_zero c).symm
  | succ m ih => rw [si, si, ih, Int.mul_add]
/-- exactly one of them counts -/
theorem si_one {p : Nat → Bool} {w : Int} : ∀ m, (∀ i j, i < m → j < m → p i = true → p j = true → i = j) → si m (fun i => if p i = true then w else 0) = if (List.range m).any p = true then w else 0 := by
  intro m
  induction m with
  | zero => intro _; rfl
  | succ m ih =>
    intro h
    rw [si, ih (fun i j hi hj => h i j (by omega) (by omega)), List.range_succ, List.any_append, List.any_cons, List.any_nil, Bool.or_false]
    by_cases c : p m = true
    · have : (List.range m).any p = false := by
        rw [List.any_eq_false]
        intro i hi z
        rw [List.mem_range] at hi
        have := h i m (by omega) (by omega) z c
        omega
      rw [this, c, Bool.false_or, if_neg (by decide), if_pos rfl]; omega
    · rw [bf c, Bool.or_false, if_neg (show ¬false = true by decide), Int.add_zero]
theorem fsB_1 {Ms : Nat → Nat} {S i j : Nat} (h1 : fsB Ms i S = true) (h2 : fsB Ms j S = true) : i = j := by
  have a := fsB_t.mp h1
  have b := fsB_t.mp h2
  rcases Nat.lt_trichotomy i j with c | c | c
  · have := b.2 i c; rw [a.1] at this; cases this
  · exact c
  · have := a.2 j c; rw [b.1] at this; cases this
theorem fsB_ex {Ms : Nat → Nat} {S : Nat} : ∀ i, subB S (Ms i) = true → ∃ x, x ≤ i ∧ fsB Ms x S = true := by
  intro i
  induction i using Nat.strongRecOn with
  | _ i ih =>
    intro h
    by_cases c : ∃ j, j < i ∧ subB S (Ms j) = true
    · obtain ⟨j, h1, h2⟩ := c
      obtain ⟨x, h3, h4⟩ := ih j h1 h2
      exact ⟨x, by omega, h4⟩
    · exact ⟨i, Nat.le_refl _, fsB_t.mpr ⟨h, fun j hj => bf fun z => c ⟨j, hj, z⟩⟩⟩
theorem fs_sum {Ms : Nat → Nat} {b S : Nat} {w : Int} (h : ∃ i, i < b ∧ subB S (Ms i) = true) : si b (fun x => if fsB Ms x S = true then w else 0) = w := by
  rw [si_one b (p := fun x => fsB Ms x S) (fun i j _ _ h1 h2 => fsB_1 h1 h2), if_pos]
  obtain ⟨i, h1, h2⟩ := h
  obtain ⟨x, h3, h4⟩ := fsB_ex i h2
  rw [List.any_eq_true]
  exact ⟨x, List.mem_range.mpr (by omega), h4⟩
theorem Pr_C {P : Nat → Prop} {w : Nat → Int} : ∀ m, Pr m (fun i => vC (P i) (w i)) = vC (∀ i, i < m → P i) (si m w) := by
  intro m
  induction m with
  | zero =>
    rw [vC_t (fun i hi => by omega)]; rfl
  | succ m ih =>
    rw [Pr, ih, vC_m]
    refine vC_c ⟨fun h i hi => ?_, fun h => ⟨fun i hi => h i (by omega), h m (by omega)⟩⟩ rfl
    by_cases e : i = m
    · subst e; exact h.2
    · exact h.1 i (by omega)
/-- a way -/
def Way (n : Nat) (B : Nat → Nat) (op bar : Nat → Nat → Bool) (a : As) : Prop := (∀ k, k < n → op k (a k) = true) ∧ ∀ k j, k < n → j < k → (B k).testBit j = true → bar (a k) (a j) = false
def wJ (B : Nat → Nat) (ed pf : Nat → Int32) (a : As) (k j : Nat) : Int := if (B k).testBit j = true then wE ed pf k j (a k) (a j) else 0
/-- its sum -/
def SUM (n : Nat) (B : Nat → Nat) (wt ed fa pf : Nat → Int32) (a : As) : Int := si n (fun k => wK wt fa k (a k) + si k (wJ B ed pf a k))
theorem Snd_k {n b : Nat} {B Ms par : Nat → Nat} (hS : Snd n b B Ms par) {k : Nat} (hk : k < n) : ∃ i, i < b ∧ (Ms i).testBit k = true := by
  obtain ⟨i, h1, h2⟩ := hS.2.1 k hk
  refine ⟨i, h1, ?_⟩
  unfold Ss at h2
  rw [Bool.and_eq_true] at h2
  exact h2.1
theorem ow_sum {n b : Nat} {B Ms par : Nat → Nat} (hS : Snd n b B Ms par) (wt ed fa pf : Nat → Int32) (a : As) : si b (fun x => ow n B Ms wt ed fa pf x a) = SUM n B wt ed fa pf a := by
  unfold ow SUM
  rw [si_s (fun x k => owK Ms wt fa x a k + si k (owE B Ms ed pf x a k)) n b]
  refine si_c n fun k hk => ?_
  rw [si_a]
  congr 1
  · unfold owK
    refine fs_sum ?_
    obtain ⟨i, h1, h2⟩ := Snd_k hS hk
    refine ⟨i, h1, subB_t.mpr fun l hl => ?_⟩
    rw [Nat.testBit_two_pow, decide_eq_true_eq] at hl
    rw [← hl]; exact h2
  · rw [si_s (fun x j => owE B Ms ed pf x a k j) k b]
    refine si_c k fun j hj => ?_
    unfold owE wJ
    by_cases c : (B k).testBit j = true
    · rw [if_pos c]
      rw [si_c (g := fun x => if fsB Ms x (2 ^ k ||| 2 ^ j) = true then wE ed pf k j (a k) (a j) else 0) b (fun x _ => by rw [c, Bool.true_and])]
      refine fs_sum ?_
      obtain ⟨i, h1, h2, h3⟩ := hS.2.2 k j hk (by omega) c
      refine ⟨i, h1, subB_t.mpr fun l hl => ?_⟩
      rw [Nat.testBit_or, Bool.or_eq_true, Nat.testBit_two_pow, Nat.testBit_two_pow, decide_eq_true_eq, decide_eq_true_eq] at hl
      rcases hl with e | e <;> subst e
      · exact h2
      · exact h3
    · rw [if_neg c]
      rw [si_c (g := fun _ => 0) b (fun x _ => by rw [bf c, Bool.false_and]; exact if_neg (by decide)), si_0]
theorem Vd_way {n b : Nat} {B Ms par : Nat → Nat} (hS : Snd n b B Ms par) (op bar : Nat → Nat → Bool) (a : As) : (∀ i, i < b → Vd n B op bar (Ms i) a) ↔ Way n B op bar a := by
  constructor
  · intro h
    constructor
    · intro k hk
      obtain ⟨i, h1, h2⟩ := Snd_k hS hk
      exact (h i h1).1 k hk h2
    · intro k j hk hj hb
      obtain ⟨i, h1, h2, h3⟩ := hS.2.2 k j hk (by omega) hb
      exact (h i h1).2 k j hk hj h2 h3 hb
  · intro h i hi
    exact ⟨fun k hk _ => h.1 k hk, fun k j hk hj _ _ hb => h.2 k j hk hj hb⟩
theorem lcM_way {n b : Nat} {B Ms par : Nat → Nat} (hS : Snd n b B Ms par) (op bar : Nat → Nat → Bool) (wt ed fa pf : Nat → Int32) (sg : Int) (a : As) : Pr b (fun i => lcM n B Ms op bar wt ed fa pf sg i a) = vC (Way n B op bar a) (sg * SUM n B wt ed fa pf a) := by
  unfold lcM
  rw [Pr_C]
  refine vC_c (Vd_way hS op bar a) ?_
  rw [si_m, ow_sum hS]
def Adj (b : Nat) (Ms : Nat → Nat) (x y : Nat) : Prop := ∃ i, i < b ∧ (Ms i).testBit x = true ∧ (Ms i).testBit y = true
theorem Adj_s {b : Nat} {Ms : Nat → Nat} {x y : Nat} (h : Adj b Ms x y) : Adj b Ms y x := by
  obtain ⟨i, h1, h2, h3⟩ := h
  exact ⟨i, h1, h3, h2⟩
/-- climbing -/
def it (par : Nat → Nat) : Nat → Nat → Nat
  | 0, i => i
  | d + 1, i => it par d (par i)
def UpI (P : Nat → Prop) (par : Nat → Nat) (i j : Nat) : Prop := ∃ d, it par d i = j ∧ ∀ e, e < d → P (it par e i)
theorem Up_r (P : Nat → Prop) (par : Nat → Nat) (i : Nat) : UpI P par i i := ⟨0, rfl, fun e he => by omega⟩
theorem Up_1 {P : Nat → Prop} {par : Nat → Nat} {i j : Nat} (h : P i) (u : UpI P par (par i) j) : UpI P par i j := by
  obtain ⟨d, h1, h2⟩ := u
  refine ⟨d + 1, h1, fun e he => ?_⟩
  cases e with
  | zero => exact h
  | succ e => exact h2 e (by omega)
theorem Up_c {P : Nat → Prop} {par : Nat → Nat} {i j : Nat} (u : UpI P par i j) : i = j ∨ (P i ∧ UpI P par (par i) j) := by
  obtain ⟨d, h1, h2⟩ := u
  cases d with
  | zero => exact Or.inl h1
  | succ d => exact Or.inr ⟨h2 0 (by omega), d, h1, fun e he => h2 (e + 1) (by omega)⟩
theorem Up_ind {P : Nat → Prop} {par : Nat → Nat} {j : Nat} {Q : Nat → Prop} (h0 : Q j) (h1 : ∀ i, P i → UpI P par (par i) j → Q (par i) → Q i) : ∀ i, UpI P par i j → Q i := by
  intro i u
  obtain ⟨d, u1, u2⟩ := u
  induction d generalizing i with
  | zero => rw [show i = j from u1]; exact h0
  | succ d ih =>
    have h : ∀ e, e < d → P (it par e (par i)) := fun e he => u2 (e + 1) (by omega)
    exact h1 i (u2 0 (by omega)) ⟨d, u1, h⟩ (ih (par i) u1 h)
theorem Up_t {P : Nat → Prop} {par : Nat → Nat} {j k : Nat} (v : UpI P par j k) : ∀ i, UpI P par i j → UpI P par i k := Up_ind v fun _ h _ ih => Up_1 h ih
theorem Up_m {P Q : Nat → Prop} (hPQ : ∀ i, P i → Q i) {par : Nat → Nat} {i j : Nat} (u : UpI P par i j) : UpI Q par i j := by
  obtain ⟨d, u1, u2⟩ := u
  exact ⟨d, u1, fun e he => hPQ _ (u2 e he)⟩
theorem Up_le {P : Nat → Prop} {par : Nat → Nat} (hP : ∀ i, P i → i < par i) {j : Nat} : ∀ i, UpI P par i j → i ≤ j := Up_ind (Nat.le_refl _) fun i h _ ih => by have := hP i h; omega
/-- two above one: the lesser is below the other -/
theorem Up_cmp {P Q : Nat → Prop} {par : Nat → Nat} (hP : ∀ i, P i → i < par i) (hQ : ∀ i, Q i → i < par i) {j k : Nat} (hjk : j ≤ k) : ∀ i, UpI P par i j → UpI Q par i k → UpI Q par j k := by
  intro i u
  refine Up_ind (Q := fun i => UpI Q par i k → UpI Q par j k) (fun v => v) (fun i hi u' ih v => ?_) i u
  rcases Up_c v with e | ⟨_, v'⟩
  · subst e
    have := Up_le hP _ u'
    have := hP _ hi
    omega
  · exact ih v'
theorem Up_cmp2 {P Q : Nat → Prop} {par : Nat → Nat} (hP : ∀ i, P i → i < par i) (hQ : ∀ i, Q i → i < par i) {j k : Nat} (hjk : j ≤ k) : ∀ i, UpI P par i j → UpI Q par i k → UpI Q par i j := by
  intro i u
  refine Up_ind (Q := fun i => UpI Q par i k → UpI Q par i j) (fun v => Up_r _ _ _) (fun i hi u' ih v => ?_) i u
  rcases Up_c v with e | ⟨q, v'⟩
  · subst e
    have := Up_le hP _ u'
    have := hP _ hi
    omega
  · exact Up_1 q (ih v')
def Bl (b : Nat) (par : Nat → Nat) (i : Nat) : Prop := i < par i ∧ par i < b
/-- a link: the bag and its up share an unset knot -/
def Lk (n b : Nat) (Ms par : Nat → Nat) (X : Nat) (i : Nat) : Prop := Bl b par i ∧ ∃ k, k < n ∧ X.testBit k = false ∧ (Ms i).testBit k = true ∧ (Ms (par i)).testBit k = true
theorem Lk_lt {n b : Nat} {Ms par : Nat → Nat} {X : Nat} (i : Nat) (h : Lk n b Ms par X i) : i < par i := h.1.1
theorem Bl_lt {b : Nat} {par : Nat → Nat} (i : Nat) (h : Bl b par i) : i < par i := h.1
/-- climbing through the bags of a knot -/
theorem clim {n b : Nat} {B Ms par : Nat → Nat} (hS : Snd n b B Ms par) {y t j : Nat} (ht : t < b) (hy : (Ms t).testBit y = true) (hjt : j ≤ t) : ∀ i, UpI (Bl b par) par i j → (Ms i).testBit y = true → (Ms j).testBit y = true := by
  refine Up_ind (Q := fun i => (Ms i).testBit y = true → (Ms j).testBit y = true) id (fun i hi u ih h => ih ?_)
  by_cases c : (Ms (par i)).testBit y = true
  · exact c
  · exfalso
    have e : Ss b Ms par i y = true := by
      unfold Ss Dm
      rw [h, if_pos hi.2, Nat.testBit_and, bf c, Bool.and_false]; rfl
    have l := Up_le (Bl_lt) _ u
    have := hi.1
    have := hS.1 i t y (by omega) ht e
    rw [hy] at this; cases this
theorem Ss_u {n b : Nat} {B Ms par : Nat → Nat} (hS : Snd n b B Ms par) {y t i : Nat} (ht : t < b) (hi : i < b) (h : Ss b Ms par t y = true) (h2 : (Ms i).testBit y = true) : i ≤ t := by
  rcases Nat.lt_or_ge t i with c | c
  · have := hS.1 t i y c hi h
    rw [h2] at this; cases this
  · exact c
/-- from each bag of a knot one climbs to where it ends, by bags of the knot -/
theorem to_top {n b : Nat} {B Ms par : Nat → Nat} (hp : ∀ i, i < b → i < par i) (hS : Snd n b B Ms par) {y t : Nat} (ht : t < b) (h : Ss b Ms par t y = true) : ∀ d i, t - i ≤ d → i < b → (Ms i).testBit y = true → UpI (fun j => Bl b par j ∧ (Ms j).testBit y = true ∧ (Ms (par j)).testBit y = true) par i t := by
  intro d
  induction d with
  | zero =>
    intro i hd hi hy
    have := Ss_u hS ht hi h hy
    rw [show i = t by omega]
    exact Up_r _ _ _
  | succ d ih =>
    intro i hd hi hy
    have h1 := Ss_u hS ht hi h hy
    by_cases e : i = t
    · subst e; exact Up_r _ _ _
    · have hs : ¬Ss b Ms par i y = true := fun z => by
        have := hS.1 i t y (by omega) ht z
        unfold Ss at h
        rw [this, Bool.false_and] at h
        cases h
      have hy2 : par i < b ∧ (Ms (par i)).testBit y = true := by
        unfold Ss at hs
        rw [hy, Bool.true_and] at hs
        by_cases c : (Dm b Ms par i).testBit y = true
        · exact (Dm_sub c).2
        · rw [bf c] at hs; exact absurd rfl hs
      have := hp i hi
      exact Up_1 ⟨⟨this, hy2.1⟩, hy, hy2.2⟩ (ih (par i) (by omega) hy2.1 hy2.2)
/-- set knots that are seen in one cluster share a bag -/
def InvU (n b : Nat) (Ms par : Nat → Nat) (X : Nat) : Prop := ∀ x y i j r, x < n → y < n → X.testBit x = true → X.testBit y = true → i < b → j < b → (Ms i).testBit x = true → (Ms j).testBit y = true → UpI (Lk n b Ms par X) par i r → UpI (Lk n b Ms par X) par j r → Adj b Ms x y
theorem root_ex {n b : Nat} {Ms par : Nat → Nat} {X : Nat} : ∀ d i, b - i ≤ d → i < b → ∃ r, r < b ∧ UpI (Lk n b Ms par X) par i r ∧ ¬Lk n b Ms par X r := by
  intro d
  induction d with
  | zero => intro i h1 h2; omega
  | succ d ih =>
    intro i h1 h2
    by_cases c : Lk n b Ms par X i
    · obtain ⟨r, r1, r2, r3⟩ := ih (par i) (by have := c.1.1; omega) c.1.2
      exact ⟨r, r1, Up_1 c r2, r3⟩
    · exact ⟨i, h2, Up_r _ _ _, c⟩
/-- HELLY: knots that pairwise share a bag, each seen below r: the least of their tops and r has them all -/
theorem helly {n b : Nat} {B Ms par : Nat → Nat} (hp : ∀ i, i < b → i < par i) (hS : Snd n b B Ms par) {P : Nat → Prop} (hP : ∀ i, P i → Bl b par i) {r : Nat} (hr : r < b) (Q : Nat → Prop) (hi : ∀ x, x < n → Q x → ∃ i, i < b ∧ (Ms i).testBit x = true ∧ UpI P par i r) (ha : ∀ x y, x < n → y < n → Q x → Q y → Adj b Ms x y) : ∃ c, c ≤ r ∧ UpI P par c r ∧ ∀ x, x < n → Q x → (Ms c).testBit x = true := by
  have key : ∀ m', m' ≤ n → ∃ c, c ≤ r ∧ (c = r ∨ ∃ x, x < m' ∧ Q x ∧ Ss b Ms par c x = true) ∧ ∀ x, x < m' → Q x → ∃ t, c ≤ t ∧ t < b ∧ Ss b Ms par t x = true := by
    intro m'
    induction m' with
    | zero => intro _; exact ⟨r, Nat.le_refl _, Or.inl rfl, fun x hx => by omega⟩
    | succ m' ih =>
      intro hm'
      obtain ⟨c, c1, c2, c3⟩ := ih (by omega)
      by_cases q : Q m'
      · obtain ⟨t, t1, t2⟩ := hS.2.1 m' (by omega)
        rcases Nat.lt_or_ge t c with l | l
        · refine ⟨t, by omega, Or.inr ⟨m', by omega, q, t2⟩, fun x hx qx => ?_⟩
          by_cases e : x = m'
          · subst e; exact ⟨t, Nat.le_refl _, t1, t2⟩
          · obtain ⟨t', a1, a2⟩ := c3 x (by omega) qx
            exact ⟨t', by omega, a2⟩
        · refine ⟨c, c1, ?_, fun x hx qx => ?_⟩
          · rcases c2 with h | ⟨x, x1, x2⟩
            · exact Or.inl h
            · exact Or.inr ⟨x, by omega, x2⟩
          · by_cases e : x = m'
            · subst e; exact ⟨t, l, t1, t2⟩
            · exact c3 x (by omega) qx
      · refine ⟨c, c1, ?_, fun x hx qx => ?_⟩
        · rcases c2 with h | ⟨x, x1, x2⟩
          · exact Or.inl h
          · exact Or.inr ⟨x, by omega, x2⟩
        · by_cases e : x = m'
          · subst e; exact absurd qx q
          · exact c3 x (by omega) qx
  obtain ⟨c, c1, c2, c3⟩ := key n (Nat.le_refl _)
  have sT : ∀ {t x}, Ss b Ms par t x = true → (Ms t).testBit x = true := fun h => by
    unfold Ss at h; rw [Bool.and_eq_true] at h; exact h.1
  have wk : ∀ {i y t}, UpI (fun j => Bl b par j ∧ (Ms j).testBit y = true ∧ (Ms (par j)).testBit y = true) par i t → UpI (Bl b par) par i t := fun u => Up_m (fun _ z => z.1) u
  have hPl : ∀ i, P i → i < par i := fun i z => (hP i z).1
  refine ⟨c, c1, ?_, ?_⟩
  · rcases c2 with h | ⟨x, x1, x2, x3⟩
    · subst h; exact Up_r _ _ _
    · obtain ⟨i, i1, i2, i3⟩ := hi x x1 x2
      exact Up_cmp Bl_lt hPl c1 i (wk (to_top hp hS (by omega) x3 (c - i) i (Nat.le_refl _) i1 i2)) i3
  · intro y hy qy
    obtain ⟨t, t1, t2, t3⟩ := c3 y hy qy
    rcases c2 with h | ⟨x, x1, x2, x3⟩
    · subst h
      obtain ⟨i, i1, i2, i3⟩ := hi y hy qy
      exact clim hS t2 (sT t3) t1 i (Up_m hP i3) i2
    · obtain ⟨m0, m1, m2, m3⟩ := ha x y x1 hy x2 qy
      have u := wk (to_top hp hS (by omega) x3 (c - m0) m0 (Nat.le_refl _) m1 m2)
      exact clim hS t2 (sT t3) t1 m0 u m3
theorem mcs_step {n b : Nat} {B Ms par : Nat → Nat} (hn : n ≤ 14) (hp : ∀ i, i < b → i < par i) (hS : Snd n b B Ms par) {X v : Nat} {mt : Nat → Nat} (hmt : ∀ k, k < n → ∀ j, (mt k).testBit j = true ↔ (j < n ∧ Adj b Ms k j)) (hX : X < 2 ^ n) (hv : v < n) (xv : X.testBit v = false) (hmax : ∀ k, k < n → X.testBit k = false → pcN (mt k &&& X) ≤ pcN (mt v &&& X)) (I : InvU n b Ms par X) : InvU n b Ms par (X ||| 2 ^ v) ∧ ∃ c, c < b ∧ (Ms c).testBit v = true ∧ ∀ j, (mt v &&& X).testBit j = true → (Ms c).testBit j = true := by
  have sT : ∀ {t x}, Ss b Ms par t x = true → (Ms t).testBit x = true := fun h => by
    unfold Ss at h; rw [Bool.and_eq_true] at h; exact h.1
  obtain ⟨tv, tv1, tv2⟩ := hS.2.1 v hv
  obtain ⟨r, r1, r2, r3⟩ := root_ex (n := n) (Ms := Ms) (par := par) (X := X) (b - tv) tv (Nat.le_refl _) tv1
  have vr : ∀ i, i < b → (Ms i).testBit v = true → UpI (Lk n b Ms par X) par i r := fun i hi h =>
    Up_t r2 i (Up_m (fun j z => ⟨z.1, v, hv, xv, z.2.1, z.2.2⟩) (to_top hp hS tv1 tv2 (tv - i) i (Nat.le_refl _) hi h))
  obtain ⟨Q, hQ⟩ : ∃ Q : Nat → Prop, ∀ x, Q x ↔ (X.testBit x = true ∧ ∃ i, i < b ∧ (Ms i).testBit x = true ∧ UpI (Lk n b Ms par X) par i r) := ⟨_, fun _ => Iff.rfl⟩
  have qa : ∀ x y, x < n → y < n → Q x → Q y → Adj b Ms x y := by
    intro x y hx hy q1 q2
    obtain ⟨x1, i, i1, i2, i3⟩ := (hQ x).mp q1
    obtain ⟨y1, j, j1, j2, j3⟩ := (hQ y).mp q2
    exact I x y i j r hx hy x1 y1 i1 j1 i2 j2 i3 j3
  have qi : ∀ x, x < n → Q x → ∃ i, i < b ∧ (Ms i).testBit x = true ∧ UpI (Lk n b Ms par X) par i r := fun x hx q => ((hQ x).mp q).2
  obtain ⟨c, c1, c2, c3⟩ := helly hp hS (P := Lk n b Ms par X) (fun _ z => z.1) r1 Q qi qa
  have hu : ∃ u, u < n ∧ X.testBit u = false ∧ (Ms c).testBit u = true := by
    rcases Up_c c2 with e | ⟨lk, _⟩
    · subst e
      by_cases e2 : tv = c
      · exact ⟨v, hv, xv, by rw [← e2]; exact sT tv2⟩
      · have : ∀ i, UpI (Lk n b Ms par X) par i c → i ≠ c → ∃ u, u < n ∧ X.testBit u = false ∧ (Ms c).testBit u = true := by
          refine Up_ind (Q := fun i => i ≠ c → ∃ u, u < n ∧ X.testBit u = false ∧ (Ms c).testBit u = true) (fun z => absurd rfl z) (fun i hi u ih z => ?_)
          by_cases e3 : par i = c
          · obtain ⟨_, k, k1, k2, k3, k4⟩ := hi
            rw [e3] at k4
            exact ⟨k, k1, k2, k4⟩
          · exact ih e3
        exact this tv r2 e2
    · obtain ⟨_, k, k1, k2, k3, k4⟩ := lk
      exact ⟨k, k1, k2, k3⟩
  obtain ⟨u, u1, u2, u3⟩ := hu
  have hcb : c < b := by omega
  have mtX : ∀ k, k < n → ∀ j, (mt k &&& X).testBit j = true ↔ (X.testBit j = true ∧ j < n ∧ Adj b Ms k j) := fun k hk j => by
    rw [Nat.testBit_and, Bool.and_eq_true, hmt k hk]
    constructor
    · rintro ⟨⟨z1, z2⟩, z3⟩; exact ⟨z3, z1, z2⟩
    · rintro ⟨z3, z1, z2⟩; exact ⟨⟨z1, z2⟩, z3⟩
  -- mates of v are seen in the cluster
  have mq : ∀ j, X.testBit j = true → Adj b Ms v j → Q j := fun j xj ⟨i, i1, i2, i3⟩ => (hQ j).mpr ⟨xj, i, i1, i3, vr i i1 i2⟩
  -- all that is seen there are mates of v
  have qm : ∀ y, y < n → Q y → Adj b Ms v y := by
    intro y hy q
    apply Classical.byContradiction
    intro na
    have h1 : pcN (mt v &&& X) + 1 ≤ pcN (mt u &&& X) := by
      have nb : (mt v &&& X).testBit y = false := bf fun z => na ((mtX v hv y).mp z).2.2
      rw [← pcN_add (by omega) nb]
      refine pcN_mono fun i hi => ?_
      rcases or2_t.mp hi with z | z
      · obtain ⟨z1, z2, z3⟩ := (mtX v hv i).mp z
        exact (mtX u u1 i).mpr ⟨z1, z2, c, hcb, u3, c3 i z2 (mq i z1 z3)⟩
      · subst z
        exact (mtX u u1 _).mpr ⟨((hQ _).mp q).1, hy, c, hcb, u3, c3 _ hy q⟩
    have := hmax u u1 u2
    omega
  constructor
  · intro x y i j s hx hy xx xy hi hj mi mj ui uj
    have lm : ∀ i, Lk n b Ms par (X ||| 2 ^ v) i → Lk n b Ms par X i := fun i ⟨z1, k, k1, k2, k3⟩ => ⟨z1, k, k1, (or2_f.mp k2).1, k3⟩
    have ui := Up_m lm ui
    have uj := Up_m lm uj
    -- two that meet, one of v's cluster
    have meet : ∀ {i j}, (Ms i).testBit v = true → i < b → UpI (Lk n b Ms par X) par i s → UpI (Lk n b Ms par X) par j s → UpI (Lk n b Ms par X) par j r := by
      intro i j hv' hi ui uj
      have h1 := vr i hi hv'
      rcases Nat.le_total s r with l | l
      · exact Up_t (Up_cmp Lk_lt Lk_lt l i ui h1) j uj
      · have h2 := Up_cmp Lk_lt Lk_lt l i h1 ui
        rcases Up_c h2 with e | ⟨e, _⟩
        · rw [e]; exact uj
        · exact absurd e r3
    rcases or2_t.mp xx with zx | zx
    · rcases or2_t.mp xy with zy | zy
      · exact I x y i j s hx hy zx zy hi hj mi mj ui uj
      · subst zy
        exact Adj_s (qm x hx ((hQ x).mpr ⟨zx, i, hi, mi, meet mj hj uj ui⟩))
    · subst zx
      rcases or2_t.mp xy with zy | zy
      · exact qm y hy ((hQ y).mpr ⟨zy, j, hj, mj, meet mi hi ui uj⟩)
      · subst zy
        exact ⟨i, hi, mi, mi⟩
  · have vv : Adj b Ms v v := ⟨tv, tv1, sT tv2, sT tv2⟩
    obtain ⟨d, d1, d2, d3⟩ := helly hp hS (P := Lk n b Ms par X) (fun _ z => z.1) r1 (fun x => x = v ∨ Q x) (fun x hx q => by
      rcases q with e | q
      · rw [e]; exact ⟨tv, tv1, sT tv2, r2⟩
      · exact qi x hx q) (fun x y hx hy q1 q2 => by
      rcases q1 with e1 | q1
      · rcases q2 with e2 | q2
        · rw [e1, e2]; exact vv
        · rw [e1]; exact qm y hy q2
      · rcases q2 with e2 | q2
        · rw [e2]; exact Adj_s (qm x hx q1)
        · exact qa x y hx hy q1 q2)
    refine ⟨d, by omega, d3 v hv (Or.inl rfl), fun j hj => ?_⟩
    obtain ⟨z1, z2, z3⟩ := (mtX v hv j).mp hj
    exact d3 j z2 (Or.inr (mq j z1 z3))
theorem InvU_0 {n b : Nat} {Ms par : Nat → Nat} : InvU n b Ms par 0 := fun x y i j r _ _ h => by
  rw [Nat.zero_testBit] at h; cases h
/-- the f-th of those below m -/
def elt (P : Nat → Bool) : Nat → Nat → Nat
  | 0, _ => 0
  | m + 1, f => if P m = true ∧ cS P m = f then m else elt P m f
theorem cS_t {P : Nat → Bool} {m : Nat} (h : P m = true) : cS P (m + 1) = cS P m + 1 := by rw [cS, if_pos h]
theorem cS_f {P : Nat → Bool} {m : Nat} (h : ¬P m = true) : cS P (m + 1) = cS P m := by rw [cS, if_neg h, Nat.add_zero]
theorem cS_le (P : Nat → Bool) : ∀ m, cS P m ≤ m := by
  intro m
  induction m with
  | zero => exact Nat.le_refl _
  | succ m ih =>
    by_cases c : P m = true
    · rw [cS_t c]; omega
    · rw [cS_f c]; omega
theorem cS_mo (P : Nat → Bool) {j m : Nat} (h : j ≤ m) : cS P j ≤ cS P m := by
  induction m with
  | zero => rw [show j = 0 by omega]; exact Nat.le_refl _
  | succ m ih =>
    by_cases e : j = m + 1
    · rw [e]; exact Nat.le_refl _
    · have := ih (by omega)
      by_cases c : P m = true
      · rw [cS_t c]; omega
      · rw [cS_f c]; omega
theorem cS_c {P Q : Nat → Bool} : ∀ m, (∀ i, i < m → P i = Q i) → cS P m = cS Q m := by
  intro m
  induction m with
  | zero => intro _; rfl
  | succ m ih => intro h; rw [cS, cS, ih (fun i hi => h i (by omega)), h m (by omega)]
theorem cS_lt {P : Nat → Bool} {j m : Nat} (h : P j = true) (hj : j < m) : cS P j < cS P m := by
  have := cS_mo P (show j + 1 ≤ m from hj)
  rw [cS_t h] at this
  exact this
theorem elt_o {P : Nat → Bool} {m f : Nat} (h : f < cS P m) : elt P (m + 1) f = elt P m f := by
  rw [elt, if_neg (fun z => by omega)]
theorem elt_n {P : Nat → Bool} {m : Nat} (h : P m = true) : elt P (m + 1) (cS P m) = m := by
  rw [elt, if_pos ⟨h, rfl⟩]
theorem elt_f {P : Nat → Bool} {m f : Nat} (h : ¬P m = true) : elt P (m + 1) f = elt P m f := by
  rw [elt, if_neg (fun z => h z.1)]
theorem elt_t {P : Nat → Bool} : ∀ m f, f < cS P m → elt P m f < m ∧ P (elt P m f) = true := by
  intro m
  induction m with
  | zero => intro f h; exact absurd h (Nat.not_lt_zero _)
  | succ m ih =>
    intro f h
    by_cases c : P m = true
    · rw [cS_t c] at h
      by_cases e : f = cS P m
      · subst e; rw [elt_n c]; exact ⟨by omega, c⟩
      · rw [elt_o (by omega)]
        have := ih f (by omega)
        exact ⟨by omega, this.2⟩
    · rw [cS_f c] at h
      rw [elt_f c]
      have := ih f h
      exact ⟨by omega, this.2⟩
theorem elt_c {P : Nat → Bool} : ∀ m f, f < cS P m → cS P (elt P m f) = f := by
  intro m
  induction m with
  | zero => intro f h; exact absurd h (Nat.not_lt_zero _)
  | succ m ih =>
    intro f h
    by_cases c : P m = true
    · rw [cS_t c] at h
      by_cases e : f = cS P m
      · subst e; rw [elt_n c]
      · rw [elt_o (by omega)]; exact ih f (by omega)
    · rw [cS_f c] at h
      rw [elt_f c]; exact ih f h
theorem elt_i {P : Nat → Bool} {j : Nat} (h : P j = true) : ∀ m, j < m → elt P m (cS P j) = j := by
  intro m
  induction m with
  | zero => intro hj; omega
  | succ m ih =>
    intro hj
    by_cases e : j = m
    · subst e; exact elt_n h
    · rw [elt_o (cS_lt h (by omega))]; exact ih (by omega)
theorem elt_cg {P Q : Nat → Bool} : ∀ m f, (∀ i, i < m → P i = Q i) → elt P m f = elt Q m f := by
  intro m
  induction m with
  | zero => intros; rfl
  | succ m ih =>
    intro f h
    rw [elt, elt, ih f (fun i hi => h i (by omega)), h m (by omega), cS_c m (fun i hi => h i (by omega))]
theorem SN_el {P : Nat → Bool} (F : Nat → Va) : ∀ m, SN m (fun s => if P s = true then F s else va0) = SN (cS P m) (fun f => F (elt P m f)) := by
  intro m
  induction m with
  | zero => rfl
  | succ m ih =>
    rw [SN, ih]
    by_cases c : P m = true
    · rw [if_pos c, cS_t c, SN, elt_n c]
      congr 1
      exact SN_c _ fun i hi => by rw [elt_o hi]
    · rw [if_neg c, cS_f c, va_0]
      exact SN_c _ fun i hi => by rw [elt_f c]
theorem Pr_el {P : Nat → Bool} (F : Nat → Va) : ∀ m, Pr m (fun s => if P s = true then F s else va1) = Pr (cS P m) (fun f => F (elt P m f)) := by
  intro m
  induction m with
  | zero => rfl
  | succ m ih =>
    rw [Pr, ih]
    by_cases c : P m = true
    · rw [if_pos c, cS_t c, Pr, elt_n c]
      congr 1
      exact Pr_c _ fun i hi => by rw [elt_o hi]
    · rw [if_neg c, cS_f c, vm1]
      exact Pr_c _ fun i hi => by rw [elt_f c]
theorem v4_SN (f : Nat → Va) : v4 f = SN 4 f := by
  unfold v4
  rw [SN, SN, SN, SN, SN, v0a, vA_a (vAdd (f 0) (f 1))]
/-- mixed radix: the digits of the set's knots, the first the fastest -/
def rx (D : Nat → Bool) (oc : Nat → Nat) : Nat → Nat
  | 0 => 1
  | k + 1 => if D k = true then rx D oc k * oc k else rx D oc k
def ix (D : Nat → Bool) (oc p : Nat → Nat) : Nat → Nat
  | 0 => 0
  | k + 1 => if D k = true then ix D oc p k + p k * rx D oc k else ix D oc p k
theorem ix_lt {D : Nat → Bool} {oc p : Nat → Nat} : ∀ k, (∀ i, i < k → D i = true → p i < oc i) → ix D oc p k < rx D oc k := by
  intro k
  induction k with
  | zero => intro _; exact Nat.zero_lt_one
  | succ k ih =>
    intro h
    have ih := ih fun i hi => h i (by omega)
    rw [ix, rx]
    by_cases c : D k = true
    · rw [if_pos c, if_pos c]
      have h1 := h k (by omega) c
      have h2 : (p k + 1) * rx D oc k ≤ oc k * rx D oc k := Nat.mul_le_mul_right _ h1
      rw [Nat.add_mul, Nat.one_mul] at h2
      rw [Nat.mul_comm (rx D oc k)]
      omega
    · rw [if_neg c, if_neg c]; exact ih
theorem ix_inj {D : Nat → Bool} {oc p p' : Nat → Nat} : ∀ k, (∀ i, i < k → D i = true → p i < oc i) → (∀ i, i < k → D i = true → p' i < oc i) → ix D oc p k = ix D oc p' k → ∀ i, i < k → D i = true → p i = p' i := by
  intro k
  induction k with
  | zero => intro _ _ _ i hi; omega
  | succ k ih =>
    intro h h' e i hi hd
    have l1 := ix_lt (D := D) (oc := oc) (p := p) k fun i hi => h i (by omega)
    have l2 := ix_lt (D := D) (oc := oc) (p := p') k fun i hi => h' i (by omega)
    rw [ix, ix] at e
    by_cases c : D k = true
    · rw [if_pos c, if_pos c] at e
      have ek : p k = p' k := by
        rcases Nat.lt_trichotomy (p k) (p' k) with z | z | z
        · have := Nat.mul_le_mul_right (rx D oc k) (show p k + 1 ≤ p' k from z)
          rw [Nat.add_mul, Nat.one_mul] at this
          omega
        · exact z
        · have := Nat.mul_le_mul_right (rx D oc k) (show p' k + 1 ≤ p k from z)
          rw [Nat.add_mul, Nat.one_mul] at this
          omega
      rw [ek] at e
      by_cases e2 : i = k
      · rw [e2]; exact ek
      · exact ih (fun i hi => h i (by omega)) (fun i hi => h' i (by omega)) (by omega) i (by omega) hd
    · rw [if_neg c, if_neg c] at e
      by_cases e2 : i = k
      · rw [e2] at hd; exact absurd hd c
      · exact ih (fun i hi => h i (by omega)) (fun i hi => h' i (by omega)) e i (by omega) hd
theorem rx_c {D : Nat → Bool} {oc oc' : Nat → Nat} : ∀ k, (∀ i, i < k → D i = true → oc i = oc' i) → rx D oc k = rx D oc' k := by
  intro k
  induction k with
  | zero => intro _; rfl
  | succ k ih =>
    intro h
    rw [rx, rx, ih fun i hi => h i (by omega)]
    by_cases c : D k = true
    · rw [if_pos c, if_pos c, h k (by omega) c]
    · rw [if_neg c, if_neg c]
theorem ix_c {D : Nat → Bool} {oc oc' p p' : Nat → Nat} : ∀ k, (∀ i, i < k → D i = true → oc i = oc' i ∧ p i = p' i) → ix D oc p k = ix D oc' p' k := by
  intro k
  induction k with
  | zero => intro _; rfl
  | succ k ih =>
    intro h
    rw [ix, ix, ih fun i hi => h i (by omega), rx_c (oc' := oc') k fun i hi hd => (h i (by omega) hd).1]
    by_cases c : D k = true
    · rw [if_pos c, if_pos c, (h k (by omega) c).2]
    · rw [if_neg c, if_neg c]
theorem rx_le {D : Nat → Bool} {oc : Nat → Nat} (h : ∀ i, oc i ≤ 4) : ∀ k, rx D oc k ≤ 4 ^ cS D k := by
  intro k
  induction k with
  | zero => exact Nat.le_refl _
  | succ k ih =>
    rw [rx]
    by_cases c : D k = true
    · rw [if_pos c, cS_t c, Nat.pow_succ]
      exact Nat.mul_le_mul ih (h k)
    · rw [if_neg c, cS_f c]; exact ih
/-- one digit changed -/
theorem ix_u {D : Nat → Bool} {oc p : Nat → Nat} {j d : Nat} (hd : D j = true) : ∀ k, j < k → ix D oc (fun i => if i = j then d else p i) k + p j * rx D oc j = ix D oc p k + d * rx D oc j := by
  intro k
  induction k with
  | zero => intro h; omega
  | succ k ih =>
    intro h
    rw [ix, ix]
    by_cases e : j = k
    · subst e
      rw [if_pos hd, if_pos hd, if_pos rfl]
      have : ix D oc (fun i => if i = j then d else p i) j = ix D oc p j := ix_c j fun i hi _ => ⟨rfl, if_neg (by omega)⟩
      rw [this]; omega
    · have ih := ih (by omega)
      by_cases c : D k = true
      · rw [if_pos c, if_pos c, if_neg (Ne.symm e)]; omega
      · rw [if_neg c, if_neg c]; exact ih
/-- the index as a sum over the set's knots in their order -/
theorem ix_el {D : Nat → Bool} {oc p : Nat → Nat} : ∀ k, ix D oc p k = Sn (cS D k) (fun f => p (elt D k f) * rx D oc (elt D k f)) := by
  intro k
  induction k with
  | zero => rfl
  | succ k ih =>
    rw [ix]
    by_cases c : D k = true
    · rw [if_pos c, cS_t c, Sn, elt_n c, ih]
      congr 1
      exact Sn_c _ fun i hi => by rw [elt_o hi]
    · rw [if_neg c, cS_f c, ih]
      exact Sn_c _ fun i hi => by rw [elt_f c]
theorem rx_s {D : Nat → Bool} {oc : Nat → Nat} {k f : Nat} (h : f < cS D k) : rx D oc (elt D k f) * oc (elt D k f) = rx D oc (elt D k f + 1) := by
  rw [rx, if_pos (elt_t k f h).2]
/-- nothing between two that follow one another -/
theorem rx_n {D : Nat → Bool} {oc : Nat → Nat} : ∀ j k, j ≤ k → cS D j = cS D k → rx D oc j = rx D oc k := by
  intro j k
  induction k with
  | zero => intro h _; rw [show j = 0 by omega]
  | succ k ih =>
    intro h e
    by_cases z : j = k + 1
    · rw [z]
    · have := cS_mo D (show j ≤ k by omega)
      have : ¬D k = true := fun q => by rw [cS_t q] at e; omega
      rw [cS_f this] at e
      rw [rx, if_neg this]
      exact ih (by omega) e
/-- the radix at the f-th -/
def rxf (D : Nat → Bool) (oc : Nat → Nat) (n f : Nat) : Nat := if f < cS D n then rx D oc (elt D n f) else rx D oc n
theorem rxf_0 {D : Nat → Bool} {oc : Nat → Nat} {n : Nat} : rxf D oc n 0 = 1 := by
  unfold rxf
  have z : ∀ m, cS D m = 0 → rx D oc m = 1 := fun m h => (rx_n 0 m (Nat.zero_le _) h.symm).symm
  by_cases c : 0 < cS D n
  · rw [if_pos c]; exact z _ (elt_c n 0 c)
  · rw [if_neg c]; exact z n (by omega)
theorem rxf_s {D : Nat → Bool} {oc : Nat → Nat} {n f : Nat} (h : f < cS D n) : rxf D oc n (f + 1) = rxf D oc n f * oc (elt D n f) := by
  have e0 : rxf D oc n f = rx D oc (elt D n f) := if_pos h
  rw [e0, rx_s h]
  have t := elt_t n f h
  have c0 : cS D (elt D n f + 1) = f + 1 := by rw [cS_t t.2, elt_c n f h]
  unfold rxf
  by_cases c : f + 1 < cS D n
  · rw [if_pos c]
    have t2 := elt_t n (f + 1) c
    have c2 := elt_c n (f + 1) c
    refine (rx_n _ _ ?_ (by rw [c0, c2])).symm
    rcases Nat.lt_or_ge (elt D n (f + 1)) (elt D n f + 1) with q | q
    · have := cS_mo D (show elt D n (f + 1) ≤ elt D n f by omega)
      rw [c2, elt_c n f h] at this; omega
    · exact q
  · rw [if_neg c]
    exact (rx_n (elt D n f + 1) n t.1 (by omega)).symm
/-- the mates of a knot -/
def mtU (Ms : Nat → Nat) (k : Nat) : Nat → Nat
  | 0 => 0
  | i + 1 => if (Ms i).testBit k = true then mtU Ms k i ||| Ms i else mtU Ms k i
theorem mtU_t {Ms : Nat → Nat} {k j : Nat} : ∀ b, (mtU Ms k b).testBit j = true ↔ Adj b Ms k j := by
  intro b
  induction b with
  | zero =>
    constructor
    · intro h; rw [show mtU Ms k 0 = 0 from rfl, Nat.zero_testBit] at h; cases h
    · rintro ⟨i, h, _⟩; omega
  | succ b ih =>
    rw [mtU]
    by_cases c : (Ms b).testBit k = true
    · rw [if_pos c, or_t, ih]
      constructor
      · rintro (⟨i, h1, h2⟩ | h)
        · exact ⟨i, by omega, h2⟩
        · exact ⟨b, by omega, c, h⟩
      · rintro ⟨i, h1, h2, h3⟩
        by_cases e : i = b
        · subst e; exact Or.inr h3
        · exact Or.inl ⟨i, by omega, h2, h3⟩
    · rw [if_neg c, ih]
      constructor
      · rintro ⟨i, h1, h2⟩; exact ⟨i, by omega, h2⟩
      · rintro ⟨i, h1, h2, h3⟩
        by_cases e : i = b
        · subst e; exact absurd h2 c
        · exact ⟨i, by omega, h2, h3⟩
theorem mtU_lt {n : Nat} {Ms : Nat → Nat} {k : Nat} : ∀ b, (∀ i, i < b → Ms i < 2 ^ n) → mtU Ms k b < 2 ^ n := by
  intro b
  induction b with
  | zero => intro _; exact Nat.two_pow_pos n
  | succ b ih =>
    intro h
    rw [mtU]
    have h1 := ih fun i hi => h i (by omega)
    by_cases c : (Ms b).testBit k = true
    · rw [if_pos c]; exact Nat.or_lt_two_pow h1 (h b (by omega))
    · rw [if_neg c]; exact h1
/-- bags as numbers -/
def MsA (n b : Nat) (Ms : Nat → Nat) (masks : Nat → Int32) : Prop := b ≤ 14 ∧ ∀ i, i < b → masks i = nI (Ms i) ∧ Ms i < 2 ^ n
theorem l_mates {n b : Nat} (hn : n ≤ 14) {Ms : Nat → Nat} {masks : Nat → Int32} (M : MsA n b Ms masks) {k : Nat} (hk : k < 14) : ∀ f i, i ≤ b → b - i < f → L_X0_matesOf_4 (nI k) (nI b) masks f (nI (mtU Ms k i)) (nI i) = some (nI (mtU Ms k b)) := by
  have hb := M.1
  have hp := p2n hn
  intro f
  induction f with
  | zero => intro i h1 h2; omega
  | succ f ih =>
    intro i hi hf
    rw [L_X0_matesOf_4]
    rcases Nat.lt_or_ge i b with c | c
    · obtain ⟨m1, m2⟩ := M.2 i c
      rw [if_neg (nI_ge c (by omega)), ld_ok _ (in14 (by omega)), cl14 (by omega), m1]
      by_cases d : (Ms i).testBit k = true
      · rw [cal_e (hasB1 (by omega) hk d), if_neg n10, ld_ok _ (in14 (by omega)), cl14 (by omega), m1, bnd_s, bnd_s, nx_or, nI_1]
        have := ih (i + 1) (by omega) (by omega)
        rw [mtU, if_pos d] at this
        exact this
      · rw [cal_e (hasB0 (by omega) hk (bf d)), if_pos rfl, bnd_s, nI_1]
        have := ih (i + 1) (by omega) (by omega)
        rw [mtU, if_neg d] at this
        exact this
    · rw [if_pos (nI_le c (by omega)), show i = b by omega]
theorem mates_n {n b : Nat} (hn : n ≤ 14) {Ms : Nat → Nat} {masks : Nat → Int32} (M : MsA n b Ms masks) {k : Nat} (hk : k < 14) : f_X0_matesOf (nI k) (nI b) masks = some (nI (mtU Ms k b)) := by
  unfold f_X0_matesOf
  rw [bnd_s, bnd_s]
  exact l_mates hn M hk NN 0 (Nat.zero_le _) (by have := M.1; show b - 0 < 32768; omega)
theorem l_most {n X : Nat} (hn : n ≤ 14) (hX : X < 2 ^ n) {bm : Nat → Int32} {mt : Nat → Nat} (hm : ∀ k, k < n → bm k = nI (mt k) ∧ mt k < 2 ^ n) : ∀ (f j : Nat) (x3 : Int32) (v : Nat), j ≤ n → n - j < f → ((x3 = -1 ∧ v = 0 ∧ ∀ i, i < j → X.testBit i = true) ∨ (v < n ∧ X.testBit v = false ∧ x3 = nI (pcN (mt v &&& X)) ∧ ∀ i, i < j → X.testBit i = false → pcN (mt i &&& X) ≤ pcN (mt v &&& X))) → ∃ w, L_X5_mostJoined_7 (nI X) (nI n) bm f (nI v) x3 (nI j) = some (nI w) ∧ ((w = 0 ∧ ∀ i, i < n → X.testBit i = true) ∨ (w < n ∧ X.testBit w = false ∧ ∀ i, i < n → X.testBit i = false → pcN (mt i &&& X) ≤ pcN (mt w &&& X))) := by
  have hp := p2n hn
  intro f
  induction f with
  | zero => intro j x3 v h1 h2; omega
  | succ f ih =>
    intro j x3 v hj hf hI
    rw [L_X5_mostJoined_7]
    rcases Nat.lt_or_ge j n with c | c
    · rw [if_neg (nI_ge c (by omega))]
      by_cases d : X.testBit j = true
      · rw [cal_e (hasB1 (by omega) (by omega) d), if_neg n10, bnd_s, nI_1]
        refine ih (j + 1) x3 v (by omega) (by omega) ?_
        rcases hI with ⟨h1, h2, h3⟩ | ⟨h1, h2, h3, h4⟩
        · refine Or.inl ⟨h1, h2, fun i hi => ?_⟩
          by_cases e : i = j
          · subst e; exact d
          · exact h3 i (by omega)
        · refine Or.inr ⟨h1, h2, h3, fun i hi z => ?_⟩
          by_cases e : i = j
          · subst e; rw [d] at z; cases z
          · exact h4 i (by omega) z
      · have hl : mt j &&& X < 16384 := Nat.lt_of_le_of_lt Nat.and_le_right (by omega)
        have hpl := pcN_le (mt j &&& X)
        rw [cal_e (hasB0 (by omega) (by omega) (bf d)), if_pos rfl, ld_ok _ (in14 (by omega)), cl14 (by omega), (hm j c).1, nx_and, cal_e (bitCount_n hl), bnd_s]
        rcases hI with ⟨h1, h2, h3⟩ | ⟨h1, h2, h3, h4⟩
        · have : ¬nI (pcN (mt j &&& X)) ≤ x3 := by
            rw [h1, Int32.le_iff_toInt_le, nI_toInt (by omega)]
            have : (-1 : Int32).toInt = -1 := rfl
            omega
          rw [if_neg this, bnd_s, bnd_s, bnd_s, nI_1]
          refine ih (j + 1) _ j (by omega) (by omega) (Or.inr ⟨c, bf d, rfl, fun i hi z => ?_⟩)
          by_cases e : i = j
          · subst e; exact Nat.le_refl _
          · rw [h3 i (by omega)] at z; cases z
        · have hpv := pcN_le (mt v &&& X)
          rw [h3]
          rcases Nat.lt_or_ge (pcN (mt v &&& X)) (pcN (mt j &&& X)) with q | q
          · rw [if_neg (nI_ge q (by omega)), bnd_s, bnd_s, bnd_s, nI_1]
            refine ih (j + 1) _ j (by omega) (by omega) (Or.inr ⟨c, bf d, rfl, fun i hi z => ?_⟩)
            by_cases e : i = j
            · subst e; exact Nat.le_refl _
            · have := h4 i (by omega) z; omega
          · rw [if_pos (nI_le q (by omega)), bnd_s, nI_1]
            refine ih (j + 1) _ v (by omega) (by omega) (Or.inr ⟨h1, h2, rfl, fun i hi z => ?_⟩)
            by_cases e : i = j
            · subst e; exact q
            · exact h4 i (by omega) z
    · rw [if_pos (nI_le c (by omega))]
      have ej : j = n := by omega
      subst ej
      refine ⟨v, rfl, ?_⟩
      rcases hI with ⟨h1, h2, h3⟩ | ⟨h1, h2, h3, h4⟩
      · exact Or.inl ⟨h2, h3⟩
      · exact Or.inr ⟨h1, h2, h4⟩
theorem most_n {n X : Nat} (hn : n ≤ 14) (hX : X < 2 ^ n) {bm : Nat → Int32} {mt : Nat → Nat} (hm : ∀ k, k < n → bm k = nI (mt k) ∧ mt k < 2 ^ n) (hu : ∃ i, i < n ∧ X.testBit i = false) : ∃ w, f_X5_mostJoined (nI X) (nI n) bm = some (nI w) ∧ w < n ∧ X.testBit w = false ∧ ∀ i, i < n → X.testBit i = false → pcN (mt i &&& X) ≤ pcN (mt w &&& X) := by
  unfold f_X5_mostJoined
  rw [bnd_s, bnd_s, bnd_s]
  obtain ⟨w, h1, h2⟩ := l_most hn hX hm NN 0 (-1) 0 (Nat.zero_le _) (by show n - 0 < 32768; omega) (Or.inl ⟨rfl, rfl, fun i hi => by omega⟩)
  refine ⟨w, h1, ?_⟩
  rcases h2 with ⟨_, h3⟩ | h3
  · obtain ⟨i, i1, i2⟩ := hu
    rw [h3 i i1] at i2; cases i2
  · exact h3
/-- an order from its end: the steps from s on -/
def OrdB (n b : Nat) (Ms par : Nat → Nat) (s X : Nat) (kn pl : Nat → Nat) : Prop := X < 2 ^ n ∧ (∀ t, s ≤ t → t < n → kn t < n ∧ pl (kn t) = t ∧ X.testBit (kn t) = true) ∧ (∀ k, X.testBit k = true → s ≤ pl k ∧ pl k < n ∧ kn (pl k) = k) ∧ (∀ t, s ≤ t → t < n → ∃ c, c < b ∧ (Ms c).testBit (kn t) = true ∧ ∀ j, X.testBit j = true → t < pl j → Adj b Ms (kn t) j → (Ms c).testBit j = true) ∧ pcU n X + s = n ∧ InvU n b Ms par X
theorem OrdB_0 {n b : Nat} {Ms par : Nat → Nat} (kn pl : Nat → Nat) : OrdB n b Ms par n 0 kn pl := ⟨Nat.two_pow_pos n, fun t h1 h2 => by omega, (fun k h => absurd h (by rw [Nat.zero_testBit]; decide)), fun t h1 h2 => by omega, by rw [pcU_0]; omega, InvU_0⟩
theorem pcU_un {n X : Nat} (h : pcU n X < n) : ∃ i, i < n ∧ X.testBit i = false := by
  apply Classical.byContradiction
  intro z
  have := pcU_full (k := n) (n := n) (m := X) (Nat.le_refl _) (fun i hi => by
    by_cases c : X.testBit i = true
    · exact c
    · exact absurd ⟨i, hi, bf c⟩ z)
  omega
theorem OrdB_s {n b : Nat} {B Ms par : Nat → Nat} (hn : n ≤ 14) (hp : ∀ i, i < b → i < par i) (hS : Snd n b B Ms par) (hM : ∀ i, i < b → Ms i < 2 ^ n) {s X : Nat} {kn pl : Nat → Nat} (O : OrdB n b Ms par (s + 1) X kn pl) {v : Nat} (hv : v < n) (xv : X.testBit v = false) (hmax : ∀ k, k < n → X.testBit k = false → pcN (mtU Ms k b &&& X) ≤ pcN (mtU Ms v b &&& X)) : OrdB n b Ms par s (X ||| 2 ^ v) (fun t => if t = s then v else kn t) (fun k => if k = v then s else pl k) := by
  obtain ⟨o1, o2, o3, o4, o5, o6⟩ := O
  obtain ⟨m1, c, c1, c2, c3⟩ := mcs_step hn hp hS (mt := fun k => mtU Ms k b) (fun k hk j => by
    rw [mtU_t]
    constructor
    · intro h
      refine ⟨?_, h⟩
      obtain ⟨i, i1, _, i3⟩ := h
      exact tb_n (hM i i1) i3
    · exact fun h => h.2) o1 hv xv hmax o6
  have kv : ∀ t, s + 1 ≤ t → t < n → kn t ≠ v := fun t h1 h2 z => by
    have := (o2 t h1 h2).2.2
    rw [z, xv] at this; cases this
  refine ⟨lt2n o1 hv, fun t h1 h2 => ?_, fun k hk => ?_, fun t h1 h2 => ?_, ?_, m1⟩
  · show (if t = s then v else kn t) < n ∧ (if (if t = s then v else kn t) = v then s else pl (if t = s then v else kn t)) = t ∧ (X ||| 2 ^ v).testBit (if t = s then v else kn t) = true
    by_cases e : t = s
    · rw [if_pos e, if_pos rfl, e]
      exact ⟨hv, rfl, or2_t.mpr (Or.inr rfl)⟩
    · rw [if_neg e, if_neg (kv t (by omega) h2)]
      have := o2 t (by omega) h2
      exact ⟨this.1, this.2.1, or2_t.mpr (Or.inl this.2.2)⟩
  · show s ≤ (if k = v then s else pl k) ∧ (if k = v then s else pl k) < n ∧ (if (if k = v then s else pl k) = s then v else kn (if k = v then s else pl k)) = k
    by_cases e : k = v
    · rw [if_pos e, if_pos rfl]
      exact ⟨Nat.le_refl _, by omega, e.symm⟩
    · rw [if_neg e]
      rcases or2_t.mp hk with z | z
      · have := o3 k z
        rw [if_neg (by omega)]
        exact ⟨by omega, this.2⟩
      · exact absurd z.symm e
  · show ∃ c, c < b ∧ (Ms c).testBit (if t = s then v else kn t) = true ∧ ∀ j, (X ||| 2 ^ v).testBit j = true → t < (if j = v then s else pl j) → Adj b Ms (if t = s then v else kn t) j → (Ms c).testBit j = true
    by_cases e : t = s
    · rw [if_pos e]
      refine ⟨c, c1, c2, fun j hj hl ha => c3 j ?_⟩
      by_cases e2 : j = v
      · rw [if_pos e2] at hl; omega
      · rcases or2_t.mp hj with z | z
        · show (mtU Ms v b &&& X).testBit j = true
          rw [Nat.testBit_and, z, Bool.and_true, mtU_t]
          exact ha
        · exact absurd z.symm e2
    · rw [if_neg e]
      obtain ⟨c', d1, d2, d3⟩ := o4 t (by omega) h2
      refine ⟨c', d1, d2, fun j hj hl ha => ?_⟩
      by_cases e2 : j = v
      · rw [if_pos e2] at hl; omega
      · rw [if_neg e2] at hl
        rcases or2_t.mp hj with z | z
        · exact d3 j z hl ha
        · exact absurd z.symm e2
  · rw [pcU_add hv xv]; omega
theorem up_e {f : Nat → Int32} {k : Nat} {x : Int32} : upd f k x k = x := if_pos rfl
theorem up_n {f : Nat → Int32} {k i : Nat} {x : Int32} (h : i ≠ k) : upd f k x i = f i := if_neg h
theorem lay45 {n b : Nat} {B Ms par : Nat → Nat} (hn : n ≤ 14) (hp : ∀ i, i < b → i < par i) (hS : Snd n b B Ms par) (hM : ∀ i, i < b → Ms i < 2 ^ n) (near0 masks : Nat → Int32) (vs : Int32) {bm : Nat → Int32} (hm : ∀ k, k < n → bm k = nI (mtU Ms k b)) (oth oc sc us fe : Nat → Int32) (gl ge : Int32) (gn : Nat → Int32) : ∀ (s f X : Nat) (kn pl : Nat → Nat) (x4 : Int32) (knots fc places : Nat → Int32), s ≤ n → s < f → ((s = 0 ∧ x4 = -1) ∨ ∃ s', s = s' + 1 ∧ x4 = nI s') → OrdB n b Ms par s X kn pl → (∀ t, s ≤ t → t < n → knots t = nI (kn t) ∧ fc t = 0) → (∀ k, X.testBit k = true → places k = nI (pl k)) → ∃ X' kn' pl' knots' fc' places', L_X5_lay_45 (nI n) near0 vs masks f (nI X) x4 (nI n) knots oth oc sc us fe fc places bm gl ge gn = cal (f_X1_start gl ge gn (nI n) near0) (fun u5 => L_X5_lay_107 (nI n) near0 vs masks NN 0 (nI n) knots' oth oc sc us fe fc' places' bm u5.1 u5.2.1 u5.2.2) ∧ OrdB n b Ms par 0 X' kn' pl' ∧ (∀ t, t < n → knots' t = nI (kn' t) ∧ fc' t = 0) ∧ (∀ k, X'.testBit k = true → places' k = nI (pl' k)) := by
  intro s
  induction s with
  | zero =>
    intro f X kn pl x4 knots fc places h1 h2 hx O hk hpl
    cases f with
    | zero => omega
    | succ f =>
      rcases hx with ⟨_, hx⟩ | ⟨s', h, _⟩
      · rw [L_X5_lay_45, hx, if_pos (by decide)]
        exact ⟨X, kn, pl, knots, fc, places, rfl, O, fun t ht => hk t (Nat.zero_le _) ht, hpl⟩
      · omega
  | succ s ih =>
    intro f X kn pl x4 knots fc places h1 h2 hx O hk hpl
    cases f with
    | zero => omega
    | succ f =>
      rcases hx with ⟨h, _⟩ | ⟨s', h, hx⟩
      · omega
      · have es : s' = s := by omega
        subst es
        obtain ⟨w, w1, w2, w3, w4⟩ := most_n hn O.1 (bm := bm) (mt := fun k => mtU Ms k b) (fun k hk => ⟨hm k hk, mtU_lt b hM⟩) (pcU_un (by have := O.2.2.2.2.1; omega))
        have O' := OrdB_s hn hp hS hM O w2 w3 w4
        rw [L_X5_lay_45, hx, if_neg (nx_nlt0 (by omega)), cal_e w1, bnd_s, nx_bit1 w (by omega), nx_or, bnd_s, sI_ok _ (in14 (by omega)), sI_ok _ (in14 (by omega)), sI_ok _ (in14 (by omega)), cl14 (by omega), cl14 (by omega), bnd_s]
        have hx' : ((s' = 0 ∧ nI s' + (-1 : Int32) = -1) ∨ ∃ s'', s' = s'' + 1 ∧ nI s' + (-1 : Int32) = nI s'') := by
          cases s' with
          | zero => exact Or.inl ⟨rfl, by decide⟩
          | succ j => exact Or.inr ⟨j, rfl, nx_dec j⟩
        refine ih f _ _ _ _ _ _ _ (by omega) (by omega) hx' O' (fun t t1 t2 => ?_) (fun k hk' => ?_)
        · show upd knots s' (nI w) t = nI (if t = s' then w else kn t) ∧ upd fc s' 0 t = 0
          by_cases e : t = s'
          · rw [if_pos e, e, up_e, up_e]; exact ⟨rfl, rfl⟩
          · rw [if_neg e, up_n e, up_n e]; exact hk t (by omega) t2
        · show upd places w (nI s') k = nI (if k = w then s' else pl k)
          by_cases e : k = w
          · rw [if_pos e, e, up_e]
          · rw [if_neg e, up_n e]
            rcases or2_t.mp hk' with z | z
            · exact hpl k z
            · exact absurd z.symm e
/-- the gone knots before a step -/
def gm (kn : Nat → Nat) : Nat → Nat
  | 0 => 0
  | s + 1 => gm kn s ||| 2 ^ kn s
theorem gm_t {kn : Nat → Nat} {k : Nat} : ∀ s, (gm kn s).testBit k = true ↔ ∃ t, t < s ∧ kn t = k := by
  intro s
  induction s with
  | zero =>
    constructor
    · intro h; rw [show gm kn 0 = 0 from rfl, Nat.zero_testBit] at h; cases h
    · rintro ⟨t, h, _⟩; omega
  | succ s ih =>
    rw [gm, or2_t, ih]
    constructor
    · rintro (⟨t, h1, h2⟩ | h)
      · exact ⟨t, by omega, h2⟩
      · exact ⟨s, by omega, h⟩
    · rintro ⟨t, h1, h2⟩
      by_cases e : t = s
      · subst e; exact Or.inr h2
      · exact Or.inl ⟨t, by omega, h2⟩
/-- the first of a set's knots to go -/
def usF (pl : Nat → Nat) (m : Nat) : Nat → Nat
  | 0 => 14
  | k + 1 => if m.testBit k = true then (if pl k < usF pl m k then pl k else usF pl m k) else usF pl m k
theorem usF_le {pl : Nat → Nat} {m i : Nat} (h : m.testBit i = true) : ∀ k, i < k → usF pl m k ≤ pl i := by
  intro k
  induction k with
  | zero => intro h; omega
  | succ k ih =>
    intro hi
    rw [usF]
    by_cases e : i = k
    · subst e
      rw [if_pos h]
      split
      · exact Nat.le_refl _
      · omega
    · have := ih (by omega)
      split
      · split
        · omega
        · exact this
      · exact this
theorem usF_ex {pl : Nat → Nat} {m : Nat} : ∀ k, (usF pl m k = 14 ∧ ∀ i, i < k → m.testBit i = true → 14 ≤ pl i) ∨ ∃ i, i < k ∧ m.testBit i = true ∧ usF pl m k = pl i := by
  intro k
  induction k with
  | zero => exact Or.inl ⟨rfl, fun i hi => by omega⟩
  | succ k ih =>
    rw [usF]
    by_cases c : m.testBit k = true
    · rw [if_pos c]
      by_cases d : pl k < usF pl m k
      · rw [if_pos d]; exact Or.inr ⟨k, by omega, c, rfl⟩
      · rw [if_neg d]
        rcases ih with ⟨h1, h2⟩ | ⟨i, h1, h2⟩
        · refine Or.inl ⟨h1, fun i hi hm => ?_⟩
          by_cases e : i = k
          · subst e; omega
          · exact h2 i (by omega) hm
        · exact Or.inr ⟨i, by omega, h2⟩
    · rw [if_neg c]
      rcases ih with ⟨h1, h2⟩ | ⟨i, h1, h2⟩
      · refine Or.inl ⟨h1, fun i hi hm => ?_⟩
        by_cases e : i = k
        · subst e; exact absurd hm c
        · exact h2 i (by omega) hm
      · exact Or.inr ⟨i, by omega, h2⟩
/-- what a plan is -/
def PlD (n : Nat) (B kn pl O us : Nat → Nat) : Prop := (∀ s, s < n → kn s < n ∧ pl (kn s) = s) ∧ (∀ k, k < n → pl k < n ∧ kn (pl k) = k) ∧ (∀ s, s < n → O s < 2 ^ n ∧ cS (tbF (O s)) n ≤ 4 ∧ ∀ k, (O s).testBit k = true → s < pl k) ∧ (∀ s k, s < n → (B (kn s)).testBit k = true → s < pl k → (O s).testBit k = true) ∧ (∀ s, s < n → (us s = 14 ∧ O s = 0) ∨ (us s < n ∧ (O s).testBit (kn (us s)) = true ∧ s < us s ∧ ∀ k, (O s).testBit k = true → us s ≤ pl k ∧ (k = kn (us s) ∨ (O (us s)).testBit k = true)))
def fS (us : Nat → Nat) (u j : Nat) : Bool := decide (us j = u)
/-- a step's rows -/
def PlR (n : Nat) (kn O us : Nat → Nat) (knots oth oc sc usr : Nat → Int32) (s : Nat) : Prop := knots s = nI (kn s) ∧ oc s = nI (cS (tbF (O s)) n) ∧ (∀ f, f < cS (tbF (O s)) n → oth (4 * s + f) = nI (elt (tbF (O s)) n f)) ∧ sc s = nI (O s ||| 2 ^ kn s) ∧ usr s = nI (us s)
def PlF (us : Nat → Nat) (fe fc : Nat → Int32) (u s : Nat) : Prop := fc u = nI (cS (fS us u) s) ∧ ∀ f, f < cS (fS us u) s → fe (14 * u + f) = nI (elt (fS us u) s f)
/-- a plan's rows -/
def PlA (n : Nat) (kn O us : Nat → Nat) (knots oth oc sc usr fe fc : Nat → Int32) : Prop := (∀ s, s < n → PlR n kn O us knots oth oc sc usr s) ∧ ∀ u, u < n → PlF us fe fc u n
/-- around a knot are only mates -/
theorem arA {n b : Nat} {B Ms par : Nat → Nat} {near0 : Nat → Int32} (N : NetN n B near0) (hS : Snd n b B Ms par) {X : Nat} {kn pl : Nat → Nat} (O : OrdB n b Ms par 0 X kn pl) : ∀ s, s ≤ n → gm kn s < 2 ^ n ∧ (∀ k, k < n → ((gm kn s).testBit k = true ↔ pl k < s)) ∧ ∀ k j, k < n → (gm kn s).testBit k = false → (arN near0 (nI n) (gm kn s) k).testBit j = true → Adj b Ms k j := by
  obtain ⟨o1, o2, o3, o4, o5, o6⟩ := O
  have A := arS_n N
  have hX : ∀ k, k < n → X.testBit k = true := by
    intro k hk
    by_cases c : X.testBit k = true
    · exact c
    · have h1 := pcU_add hk (bf c)
      have h2 := pcU_le n (X ||| 2 ^ k)
      omega
  have gmI : ∀ s, s ≤ n → ∀ k, k < n → ((gm kn s).testBit k = true ↔ pl k < s) := by
    intro s hs k hk
    rw [gm_t]
    constructor
    · rintro ⟨t, t1, t2⟩
      have := (o2 t (Nat.zero_le _) (by omega)).2.1
      rw [t2] at this; omega
    · intro h
      have := o3 k (hX k hk)
      exact ⟨pl k, h, this.2.2⟩
  intro s
  induction s with
  | zero =>
    intro _
    refine ⟨Nat.two_pow_pos n, gmI 0 (Nat.zero_le _), fun k j hk _ h => ?_⟩
    rw [show gm kn 0 = 0 from rfl, ar_zero (arN_ar N (Nat.two_pow_pos n) hk).2.2 (N.2.2.2.2.1 k)] at h
    exact hS.2.2 k j hk (tb_n (N.2.2.1 k) h) h
  | succ s ih =>
    intro hs
    obtain ⟨g1, g2, g3⟩ := ih (by omega)
    obtain ⟨k1, k2, k3⟩ := o2 s (Nat.zero_le _) (by omega)
    have gv : (gm kn s).testBit (kn s) = false := bf fun z => by have := (g2 _ k1).mp z; omega
    refine ⟨lt2n g1 k1, gmI (s + 1) hs, fun k j hk hg h => ?_⟩
    have hg2 : (gm kn s ||| 2 ^ kn s).testBit k = false := hg
    obtain ⟨q1, q2⟩ := or2_f.mp hg2
    obtain ⟨h1, h2⟩ := (A.2.2.1 (gm kn s) (kn s) k j g1 k1 hk gv (Ne.symm q2)).mp h
    rcases h2 with h2 | ⟨h2, h3, h4⟩
    · exact g3 k j hk q1 h2
    · -- both are mates of the knot that went, behind it: one bag
      obtain ⟨c, c1, c2, c3⟩ := o4 s (Nat.zero_le _) (by omega)
      have hj := (A.1 _ _ j g1 k1 h3)
      have hk2 := A.2.1 _ k (kn s) g1 hk q1 h2
      have in_c : ∀ i, (arN near0 (nI n) (gm kn s) (kn s)).testBit i = true → (Ms c).testBit i = true := by
        intro i hi
        have ai := A.1 _ _ i g1 k1 hi
        have li : ¬pl i < s := fun z => by
          have := (g2 i ai.1).mpr z
          rw [ai.2.2] at this; cases this
        have ni : pl i ≠ s := fun z => by
          have := (o3 i (hX i ai.1)).2.2
          rw [z] at this
          exact ai.2.1 this.symm
        exact c3 i (hX i ai.1) (by omega) (g3 _ _ k1 gv hi)
      exact ⟨c, c1, in_c k hk2, in_c j h3⟩
/-- what is around a knot when it goes -/
noncomputable def Oar (near0 : Nat → Int32) (n : Nat) (kn : Nat → Nat) (s : Nat) : Nat := arN near0 (nI n) (gm kn s) (kn s)
noncomputable def Uar (near0 : Nat → Int32) (n : Nat) (kn pl : Nat → Nat) (s : Nat) : Nat := usF pl (Oar near0 n kn s) n
theorem PlD_n {n b : Nat} {B Ms par : Nat → Nat} {near0 : Nat → Int32} (N : NetN n B near0) (hM : ∀ i, i < b → Ms i < 2 ^ n ∧ pcN (Ms i) ≤ 5) (hS : Snd n b B Ms par) {X : Nat} {kn pl : Nat → Nat} (O : OrdB n b Ms par 0 X kn pl) : PlD n B kn pl (Oar near0 n kn) (Uar near0 n kn pl) := by
  have ara := arA N hS O
  obtain ⟨o1, o2, o3, o4, o5, o6⟩ := O
  have A := arS_n N
  have hn := N.1
  have hX : ∀ k, k < n → X.testBit k = true := by
    intro k hk
    by_cases c : X.testBit k = true
    · exact c
    · have h1 := pcU_add hk (bf c)
      have h2 := pcU_le n (X ||| 2 ^ k)
      omega
  have hpl : ∀ k, k < n → pl k < n ∧ kn (pl k) = k := fun k hk => (o3 k (hX k hk)).2
  have gv : ∀ s, s < n → (gm kn s).testBit (kn s) = false := fun s hs => bf fun z => by
    have h1 := o2 s (Nat.zero_le _) hs
    have := ((ara s (by omega)).2.1 _ h1.1).mp z
    omega
  have ob : ∀ s, s < n → ∀ k, (Oar near0 n kn s).testBit k = true → k < n ∧ s < pl k := by
    intro s hs k hk
    have h1 := o2 s (Nat.zero_le _) hs
    have a := A.1 _ _ k (ara s (by omega)).1 h1.1 hk
    refine ⟨a.1, ?_⟩
    have li : ¬pl k < s := fun z => by
      have := ((ara s (by omega)).2.1 k a.1).mpr z
      rw [a.2.2] at this; cases this
    have ni : pl k ≠ s := fun z => by
      have := (hpl k a.1).2
      rw [z] at this
      exact a.2.1 this.symm
    omega
  have oin : ∀ s, s < n → ∃ c, c < b ∧ (Ms c).testBit (kn s) = true ∧ ∀ k, (Oar near0 n kn s).testBit k = true → (Ms c).testBit k = true := by
    intro s hs
    have h1 := o2 s (Nat.zero_le _) hs
    obtain ⟨c, c1, c2, c3⟩ := o4 s (Nat.zero_le _) hs
    refine ⟨c, c1, c2, fun k hk => ?_⟩
    have a := ob s hs k hk
    exact c3 k (hX k a.1) a.2 ((ara s (by omega)).2.2 _ _ h1.1 (gv s hs) hk)
  -- neighbours stay neighbours
  have stay : ∀ s, s < n → ∀ t, s < t → t ≤ n → ∀ j k, (Oar near0 n kn s).testBit j = true → (Oar near0 n kn s).testBit k = true → j ≠ k → t ≤ pl j → t ≤ pl k → (arN near0 (nI n) (gm kn t) j).testBit k = true := by
    intro s hs t
    induction t with
    | zero => intro h; omega
    | succ t ih =>
      intro hst ht j k hj hk hjk pj pk
      have h1 := o2 t (Nat.zero_le _) (by omega)
      have aj := ob s hs j hj
      have ak := ob s hs k hk
      have nj : j ≠ kn t := fun z => by rw [z, h1.2.1] at pj; omega
      have nk : k ≠ kn t := fun z => by rw [z, h1.2.1] at pk; omega
      have key := A.2.2.1 (gm kn t) (kn t) j k (ara t (by omega)).1 h1.1 aj.1 (gv t (by omega)) nj
      refine key.mpr ⟨nk, ?_⟩
      by_cases e : t = s
      · subst e
        right
        refine ⟨?_, hk, Ne.symm hjk⟩
        exact A.2.1 _ (kn t) j (ara t (by omega)).1 h1.1 (gv t (by omega)) hj
      · left
        exact ih (by omega) (by omega) j k hj hk hjk (by omega) (by omega)
  refine ⟨fun s hs => ⟨(o2 s (Nat.zero_le _) hs).1, (o2 s (Nat.zero_le _) hs).2.1⟩, hpl, fun s hs => ⟨?_, ?_, fun k hk => (ob s hs k hk).2⟩, fun s k hs hb hl => ?_, fun s hs => ?_⟩
  · exact Nat.lt_pow_two_of_testBit _ fun i hi => bf fun z => by have := (ob s hs i z).1; omega
  · rw [cS_pc]
    obtain ⟨c, c1, c2, c3⟩ := oin s hs
    have h1 := o2 s (Nat.zero_le _) hs
    have nb : (Oar near0 n kn s).testBit (kn s) = false := bf fun z => by
      have := (ob s hs _ z).2; omega
    have h2 : pcN (Oar near0 n kn s ||| 2 ^ kn s) ≤ pcN (Ms c) := pcN_mono fun i hi => by
      rcases or2_t.mp hi with z | z
      · exact c3 i z
      · rw [← z]; exact c2
    rw [pcN_add (by omega) nb] at h2
    have h3 := (hM c c1).2
    have h4 : pcU n (Oar near0 n kn s) ≤ pcN (Oar near0 n kn s) := pcU_k _ hn
    omega
  · have h1 := o2 s (Nat.zero_le _) hs
    have hk : k < n := tb_n (N.2.2.1 _) hb
    refine A.2.2.2 _ _ k (ara s (by omega)).1 h1.1 hb (bf fun z => ?_)
    have := ((ara s (by omega)).2.1 k hk).mp z
    omega
  · rcases usF_ex (pl := pl) (m := Oar near0 n kn s) n with ⟨u1, u2⟩ | ⟨i, i1, i2, i3⟩
    · left
      refine ⟨u1, ?_⟩
      apply Nat.eq_of_testBit_eq
      intro k
      rw [Nat.zero_testBit]
      refine bf fun z => ?_
      have a := ob s hs k z
      have h2 := u2 k a.1 z
      have := (hpl k a.1).1
      omega
    · right
      have e : Uar near0 n kn pl s = pl i := i3
      have hi := hpl i i1
      rw [e, hi.2]
      refine ⟨hi.1, i2, (ob s hs i i2).2, fun k hk => ?_⟩
      have ak := ob s hs k hk
      have lk : Uar near0 n kn pl s ≤ pl k := usF_le hk n ak.1
      rw [e] at lk
      refine ⟨lk, ?_⟩
      by_cases z : k = i
      · exact Or.inl z
      · right
        have := stay s hs (pl i) (ob s hs i i2).2 (by omega) i k i2 hk (Ne.symm z) (Nat.le_refl _) lk
        show (arN near0 (nI n) (gm kn (pl i)) (kn (pl i))).testBit k = true
        rw [hi.2]
        exact this
theorem in56 {k : Nat} (h : k < 56) : okI (nI k) 56 := nI_in (c := k) (N := 56) h (by decide)
theorem nx_s4 (s x : Nat) : nI s * (4 : Int32) + nI x = nI (4 * s + x) := by rw [show (4 : Int32) = nI 4 from rfl, nx_mul, nI_add, Nat.mul_comm]
theorem nx_s14 (s x : Nat) : nI s * (14 : Int32) + nI x = nI (14 * s + x) := by rw [show (14 : Int32) = nI 14 from rfl, nx_mul, nI_add, Nat.mul_comm]
theorem min_n {a b : Nat} (ha : a < 2 ^ 30) (hb : b < 2 ^ 30) : (if nI a < nI b then nI a else nI b) = nI (if a < b then a else b) := by
  have e : nI a < nI b ↔ a < b := by
    rw [Int32.lt_iff_toInt_lt, nI_toInt (by omega), nI_toInt (by omega)]; omega
  by_cases c : a < b
  · rw [if_pos c, if_pos (e.mpr c)]
  · rw [if_neg c, if_neg (fun z => c (e.mp z))]
theorem usF_lt {pl : Nat → Nat} {m : Nat} : ∀ k, usF pl m k ≤ 14 := by
  intro k
  induction k with
  | zero => exact Nat.le_refl _
  | succ k ih =>
    rw [usF]
    split
    · split
      · omega
      · exact ih
    · exact ih
/-- the last row of a step -/
noncomputable def tkEnd (s v m u n : Nat) (oth oc sc us fe fc : Nat → Int32) (gl ge : Int32) (gn : Nat → Int32) : Option ((Nat → Int32) × (Nat → Int32) × (Nat → Int32) × (Nat → Int32) × (Nat → Int32) × (Nat → Int32) × Int32 × Int32 × (Nat → Int32)) :=
  if 14 ≤ u then cal (f_X1_letGo (nI v) gl ge gn) (fun u11 => some (oth, upd oc s (nI (cS (tbF m) n)), upd sc s (nI (m ||| 2 ^ v)), upd us s (nI u), fe, fc, u11.1, u11.2.1, u11.2.2))
  else cal (f_X1_letGo (nI v) gl ge gn) (fun u16 => some (oth, upd oc s (nI (cS (tbF m) n)), upd sc s (nI (m ||| 2 ^ v)), upd us s (nI u), upd fe (14 * u + (fc u).toNatClampNeg) (nI s), upd fc u (fc u + 1), u16.1, u16.2.1, u16.2.2))
theorem l_tk {n s v m : Nat} (hn : n ≤ 14) (hs : s < n) (hv : v < n) (hm : m < 2 ^ n) (h4 : cS (tbF m) n ≤ 4) {pl : Nat → Nat} {places : Nat → Int32} (hpl : ∀ k, k < n → places k = nI (pl k) ∧ pl k < n) (knots : Nat → Int32) (oc sc us fe fc : Nat → Int32) (hfc : usF pl m n < 14 → ∃ c, fc (usF pl m n) = nI c ∧ c < 14) (gl ge : Int32) (gn : Nat → Int32) : ∀ (f k : Nat) (oth : Nat → Int32), k ≤ n → n - k < f → (∀ i, i < cS (tbF m) k → oth (4 * s + i) = nI (elt (tbF m) k i)) → ∃ oth', L_X5_takeStep_27 (nI s) (nI n) knots places f (nI v) (nI m) (nI (cS (tbF m) k)) (nI (usF pl m k)) (nI k) oth oc sc us fe fc gl ge gn = tkEnd s v m (usF pl m n) n oth' oc sc us fe fc gl ge gn ∧ (∀ i, i < cS (tbF m) n → oth' (4 * s + i) = nI (elt (tbF m) n i)) ∧ ∀ i, ¬(4 * s ≤ i ∧ i < 4 * s + 4) → oth' i = oth i := by
  have hp := p2n hn
  intro f
  induction f with
  | zero => intro k oth h1 h2; omega
  | succ f ih =>
    intro k oth hk hf hO
    rw [L_X5_takeStep_27]
    rcases Nat.lt_or_ge k n with c | c
    · rw [if_neg (nI_ge c (by omega))]
      by_cases d : m.testBit k = true
      · have dt : tbF m k = true := d
        have lt := cS_lt dt c
        rw [cal_e (hasB1 (by omega) (by omega) d), if_neg n10, if_pos (show nI (cS (tbF m) k) < (4 : Int32) by
          rw [Int32.lt_iff_toInt_lt, nI_toInt (by omega)]
          have : (4 : Int32).toInt = 4 := rfl
          omega), nx_s4, sI_ok _ (in56 (by omega)), bnd_s, ld_ok _ (in14 (by omega)), cl14 (by omega), (hpl k c).1, min_n (by have := (hpl k c).2; omega) (by have := usF_lt (pl := pl) (m := m) k; omega), bnd_s, bnd_s, nI_1, nI_1, nI_clamp (by omega)]
        obtain ⟨oth', r1, r2, r3⟩ := ih (k + 1) (upd oth (4 * s + cS (tbF m) k) (nI k)) (by omega) (by omega) (fun i hi => by
          rw [cS_t dt] at hi
          by_cases e : i = cS (tbF m) k
          · rw [e, up_e, elt_n dt]
          · rw [up_n (by omega), elt_o (by omega)]; exact hO i (by omega))
        rw [cS_t dt, usF, if_pos d] at r1
        refine ⟨oth', r1, r2, fun i hi => ?_⟩
        rw [r3 i hi, up_n (by omega)]
      · have dt : ¬tbF m k = true := d
        rw [cal_e (hasB0 (by omega) (by omega) (bf d)), if_pos rfl, bnd_s, nI_1]
        obtain ⟨oth', r1, r2, r3⟩ := ih (k + 1) oth (by omega) (by omega) (fun i hi => by
          rw [cS_f dt] at hi
          rw [elt_f dt]; exact hO i hi)
        rw [cS_f dt, usF, if_neg d] at r1
        exact ⟨oth', r1, r2, r3⟩
    · have ek : k = n := by omega
      subst ek
      refine ⟨oth, ?_, hO, fun _ _ => rfl⟩
      have hu := usF_lt (pl := pl) (m := m) k
      rw [if_pos (nI_le c (by omega)), sI_ok _ (in14 (by omega)), sI_ok _ (in14 (by omega)), sI_ok _ (in14 (by omega)), cl14 (by omega), nx_bit1 v (by omega), nx_or]
      unfold tkEnd
      rcases Nat.lt_or_ge (usF pl m k) 14 with q | q
      · obtain ⟨c, c1, c2⟩ := hfc q
        rw [if_neg (show ¬(14 : Int32) ≤ nI (usF pl m k) from nI_ge (b := 14) q (by decide)), if_neg (show ¬14 ≤ usF pl m k by omega), ld_ok _ (in14 (by omega)), cl14 (by omega), c1, nx_s14, sI_ok _ (in196 (by omega)), ld_ok _ (in14 (by omega)), sI_ok _ (in14 (by omega)), nI_clamp (n := 14 * usF pl m k + c) (by omega), nI_clamp (n := usF pl m k) (by omega), nI_clamp (n := c) (by omega), c1]
      · rw [if_pos (show (14 : Int32) ≤ nI (usF pl m k) from nI_le (a := 14) q (by omega)), if_pos (show 14 ≤ usF pl m k from q)]
theorem lay107 {n : Nat} {B : Nat → Nat} {near0 : Nat → Int32} (N : NetN n B near0) {kn pl : Nat → Nat} (P : PlD n B kn pl (Oar near0 n kn) (Uar near0 n kn pl)) (hG : ∀ s, s < n → (gm kn s).testBit (kn s) = false) {knots places : Nat → Int32} (hk : ∀ t, t < n → knots t = nI (kn t)) (hpl : ∀ k, k < n → places k = nI (pl k)) (bm masks : Nat → Int32) (vs : Int32) : ∀ (f s e : Nat) (oth oc sc us fe fc : Nat → Int32) (gl : Int32) (gn : Nat → Int32), s ≤ n → n - s < f → GS n (arN near0 (nI n)) (gm kn s) gl gn → (∀ t, t < s → PlR n kn (Oar near0 n kn) (Uar near0 n kn pl) knots oth oc sc us t) → (∀ u, u < n → PlF (Uar near0 n kn pl) fe fc u s) → ∃ oth' oc' sc' us' fe' fc' a b c, L_X5_lay_107 (nI n) near0 vs masks f (nI s) (nI n) knots oth oc sc us fe fc places bm gl (nI e) gn = some (nI n, knots, oth', oc', sc', us', fe', fc', places, bm, a, b, c) ∧ PlA n kn (Oar near0 n kn) (Uar near0 n kn pl) knots oth' oc' sc' us' fe' fc' := by
  have hn := N.1
  have A := arS_n N
  obtain ⟨p1, p2, p3, p4, p5⟩ := P
  intro f
  induction f with
  | zero => intro s e oth oc sc us fe fc gl gn h1 h2; omega
  | succ f ih =>
    intro s e oth oc sc us fe fc gl gn hs hf hS hR hF
    rw [L_X5_lay_107]
    rcases Nat.lt_or_ge s n with c | c
    · rw [if_neg (nI_ge c (by omega))]
      have k1 := p1 s c
      have o1 := p3 s c
      have gnv : gn (kn s) = nI (Oar near0 n kn s) := by
        rw [(hS.2.2 (kn s) (by omega)).1, gA_in hn k1.1 (hG s c)]; rfl
      -- feeder counts, also of steps behind n
      have U14 : ∀ j, j < n → Uar near0 n kn pl j = 14 ∨ Uar near0 n kn pl j < n := fun j hj => by
        rcases p5 j hj with h | h
        · exact Or.inl h.1
        · exact Or.inr h.1
      obtain ⟨oth', t1, t2, t3⟩ := l_tk (n := n) (s := s) (v := kn s) (m := Oar near0 n kn s) hn c k1.1 o1.1 o1.2.1 (pl := pl) (places := places) (fun k hk => ⟨hpl k hk, (p2 k hk).1⟩) knots oc sc us fe fc (fun hu => by
        rcases U14 s c with q | q
        · have q : usF pl (Oar near0 n kn s) n = 14 := q
          omega
        · have := cS_le (fS (Uar near0 n kn pl) (Uar near0 n kn pl s)) s
          refine ⟨cS (fS (Uar near0 n kn pl) (Uar near0 n kn pl s)) s, (hF _ q).1, ?_⟩
          omega) gl (nI e) gn NN 0 oth (Nat.zero_le _) (by show n - 0 < 32768; omega) (fun i hi => absurd hi (Nat.not_lt_zero _))
      obtain ⟨gl', gn', g1, g2⟩ := letGo_g (e := e) A hn hS k1.1 (hG s c)
      have eU : usF pl (Oar near0 n kn s) n = Uar near0 n kn pl s := rfl
      rw [eU] at t1
      -- the rows of the steps up to this one
      have hR' : ∀ t, t < s + 1 → PlR n kn (Oar near0 n kn) (Uar near0 n kn pl) knots oth' (upd oc s (nI (cS (tbF (Oar near0 n kn s)) n))) (upd sc s (nI (Oar near0 n kn s ||| 2 ^ kn s))) (upd us s (nI (Uar near0 n kn pl s))) t := by
        intro t ht
        by_cases q : t = s
        · subst q
          exact ⟨hk t c, up_e, t2, up_e, up_e⟩
        · obtain ⟨r1, r2, r3, r4, r5⟩ := hR t (by omega)
          refine ⟨r1, by rw [up_n q]; exact r2, fun i hi => ?_, by rw [up_n q]; exact r4, by rw [up_n q]; exact r5⟩
          have := (p3 t (by omega)).2.1
          rw [t3 _ (by omega)]
          exact r3 i hi
      have hstep : f_X5_takeStep (nI s) (nI n) knots oth oc sc us fe fc places gl (nI e) gn = tkEnd s (kn s) (Oar near0 n kn s) (Uar near0 n kn pl s) n oth' oc sc us fe fc gl (nI e) gn := by
        unfold f_X5_takeStep
        rw [ld_ok _ (in14 (by omega)), cl14 (by omega), hk s c, bnd_s, ld_ok _ (in14 (by omega)), cl14 (by omega), gnv, bnd_s, bnd_s, bnd_s, bnd_s]
        exact t1
      unfold tkEnd at hstep
      by_cases q : 14 ≤ Uar near0 n kn pl s
      · rw [if_pos q, cal_e g1] at hstep
        rw [cal_e hstep, bnd_s, nI_1]
        refine ih (s + 1) _ _ _ _ _ _ _ _ _ (by omega) (by omega) g2 hR' (fun u hu => ?_)
        have hn' : ¬fS (Uar near0 n kn pl) u s = true := by
          unfold fS
          rw [decide_eq_true_eq]; omega
        obtain ⟨f1, f2⟩ := hF u hu
        refine ⟨by rw [cS_f hn']; exact f1, fun i hi => ?_⟩
        rw [cS_f hn'] at hi
        rw [elt_f hn']
        exact f2 i hi
      · rw [if_neg q, cal_e g1] at hstep
        rw [cal_e hstep, bnd_s, nI_1]
        refine ih (s + 1) _ _ _ _ _ _ _ _ _ (by omega) (by omega) g2 hR' (fun u hu => ?_)
        obtain ⟨f1, f2⟩ := hF u hu
        have hun : Uar near0 n kn pl s < n := by
          rcases U14 s c with z | z
          · omega
          · exact z
        have f3 := (hF _ hun).1
        have cl1 := cS_le (fS (Uar near0 n kn pl) (Uar near0 n kn pl s)) s
        show upd fc (Uar near0 n kn pl s) (fc (Uar near0 n kn pl s) + 1) u = _ ∧ ∀ i, i < _ → upd fe (14 * Uar near0 n kn pl s + (fc (Uar near0 n kn pl s)).toNatClampNeg) (nI s) (14 * u + i) = _
        rw [f3, nI_clamp (by omega), nI_1]
        by_cases z : u = Uar near0 n kn pl s
        · have hy : fS (Uar near0 n kn pl) u s = true := by
            unfold fS
            rw [decide_eq_true_eq]; exact z.symm
          rw [← z, up_e]
          refine ⟨by rw [cS_t hy], fun i hi => ?_⟩
          rw [cS_t hy] at hi
          by_cases z2 : i = cS (fS (Uar near0 n kn pl) u) s
          · rw [z2, up_e, elt_n hy]
          · rw [up_n (by omega), elt_o (by omega)]
            exact f2 i (by omega)
        · have hn' : ¬fS (Uar near0 n kn pl) u s = true := by
            unfold fS
            rw [decide_eq_true_eq]; exact fun h => z h.symm
          rw [up_n z]
          refine ⟨by rw [cS_f hn']; exact f1, fun i hi => ?_⟩
          rw [cS_f hn'] at hi
          have cl2 := cS_le (fS (Uar near0 n kn pl) u) s
          rw [elt_f hn', up_n (by omega)]
          exact f2 i hi
    · have es : s = n := by omega
      subst es
      rw [if_pos (nI_le c (by omega))]
      exact ⟨_, _, _, _, _, _, _, _, _, rfl, hR, hF⟩
theorem lay10 {n b : Nat} {Ms : Nat → Nat} (hn : n ≤ 14) {masks : Nat → Int32} (M : MsA n b Ms masks) (near0 : Nat → Int32) (knots oth oc sc us fe fc places : Nat → Int32) (gl ge : Int32) (gn : Nat → Int32) : ∀ (f k : Nat) (bm : Nat → Int32), k ≤ n → n - k < f → (∀ i, i < k → bm i = nI (mtU Ms i b)) → ∃ bm', L_X5_lay_10 (nI n) near0 (nI b) masks f (nI k) (nI n) knots oth oc sc us fe fc places bm gl ge gn = L_X5_lay_45 (nI n) near0 (nI b) masks NN 0 (nI n - 1) (nI n) knots oth oc sc us fe fc places bm' gl ge gn ∧ ∀ i, i < n → bm' i = nI (mtU Ms i b) := by
  intro f
  induction f with
  | zero => intro k bm h1 h2; omega
  | succ f ih =>
    intro k bm hk hf h
    rw [L_X5_lay_10]
    rcases Nat.lt_or_ge k n with c | c
    · rw [if_neg (nI_ge c (by omega)), cal_e (mates_n hn M (by omega)), sI_ok _ (in14 (by omega)), cl14 (by omega), bnd_s, nI_1]
      refine ih (k + 1) _ (by omega) (by omega) fun i hi => ?_
      by_cases e : i = k
      · rw [e, up_e]
      · rw [up_n e]; exact h i (by omega)
    · have ek : k = n := by omega
      subst ek
      rw [if_pos (nI_le c (by omega)), bnd_s, bnd_s]
      exact ⟨bm, rfl, h⟩
/-- THE PLAN -/
theorem lay_n {n b : Nat} {B Ms par : Nat → Nat} {near0 masks : Nat → Int32} (N : NetN n B near0) (M : MsA n b Ms masks) (h5 : ∀ i, i < b → pcN (Ms i) ≤ 5) (hp : ∀ i, i < b → i < par i) (hS : Snd n b B Ms par) (ts : Int32) (knots oth oc sc us fe fc places bm : Nat → Int32) (gl ge : Int32) (gn : Nat → Int32) : ∃ kn pl O U knots' oth' oc' sc' us' fe' fc' r, f_X5_lay ts knots oth oc sc us fe fc places bm gl ge gn (nI n) near0 (nI b) masks = some (nI n, knots', oth', oc', sc', us', fe', fc', r) ∧ PlD n B kn pl O U ∧ PlA n kn O U knots' oth' oc' sc' us' fe' fc' := by
  have hn := N.1
  have hM : ∀ i, i < b → Ms i < 2 ^ n := fun i hi => (M.2 i hi).2
  unfold f_X5_lay
  rw [bnd_s, bnd_s]
  obtain ⟨bm', b1, b2⟩ := lay10 hn M near0 knots oth oc sc us fe fc places gl ge gn NN 0 bm (Nat.zero_le _) (by show n - 0 < 32768; omega) (fun i hi => by omega)
  have hx : ((n = 0 ∧ nI n - (1 : Int32) = -1) ∨ ∃ s', n = s' + 1 ∧ nI n - (1 : Int32) = nI s') := by
    cases n with
    | zero => exact Or.inl ⟨rfl, by decide⟩
    | succ j => exact Or.inr ⟨j, rfl, nI_pred j⟩
  obtain ⟨X', kn', pl', knots', fc', places', c1, c2, c3, c4⟩ := lay45 hn hp hS hM near0 masks (nI b) b2 oth oc sc us fe gl ge gn n NN 0 (fun _ => 0) (fun _ => 0) (nI n - 1) knots fc places (Nat.le_refl _) (by show n < 32768; omega) hx (OrdB_0 _ _) (fun t h1 h2 => by omega) (fun k h => by rw [Nat.zero_testBit] at h; cases h)
  obtain ⟨gl', gn', s1, s2⟩ := start_g N gl ge gn
  have P := PlD_n N (fun i hi => ⟨hM i hi, h5 i hi⟩) hS c2
  have hX : ∀ k, k < n → X'.testBit k = true := by
    intro k hk
    by_cases c : X'.testBit k = true
    · exact c
    · have h1 := pcU_add hk (bf c)
      have h2 := pcU_le n (X' ||| 2 ^ k)
      have := c2.2.2.2.2.1
      omega
  have ara := arA N hS c2
  have hG : ∀ s, s < n → (gm kn' s).testBit (kn' s) = false := fun s hs => bf fun z => by
    have h1 := P.1 s hs
    have := ((ara s (by omega)).2.1 _ h1.1).mp z
    omega
  obtain ⟨oth', oc', sc', us', fe', fc'', a, b', c, d1, d2⟩ := lay107 N P hG (fun t ht => (c3 t ht).1) (fun k hk => c4 k (hX k hk)) bm' masks (nI b) NN 0 0 oth oc sc us fe fc' gl' gn' (Nat.zero_le _) (by show n - 0 < 32768; omega) s2 (fun t ht => by omega) (fun u hu => ⟨(c3 u hu).2, fun i hi => absurd hi (Nat.not_lt_zero _)⟩)
  refine ⟨kn', pl', _, _, knots', oth', oc', sc', us', fe', fc'', (places', bm', a, b', c), ?_, P, d2⟩
  refine b1.trans (c1.trans ?_)
  rw [cal_e s1]
  exact d1
