/-- values: how many, the best, how many of the best; none: nothing -/
abbrev Va := Option (Nat × Int × Nat)
def va0 : Va := none
def va1 : Va := some (1, 0, 1)
def vAdd : Va → Va → Va
  | none, y => y
  | some x, none => some x
  | some (c, b, m), some (d, e, k) => if b < e then some (c + d, e, k) else if e < b then some (c + d, b, m) else some (c + d, b, m + k)
def vMul : Va → Va → Va
  | none, _ => none
  | some _, none => none
  | some (c, b, m), some (d, e, k) => some (c * d, b + e, m * k)
theorem v0a (x : Va) : vAdd va0 x = x := rfl
theorem va_0 (x : Va) : vAdd x va0 = x := by cases x <;> rfl
theorem v0m (x : Va) : vMul va0 x = va0 := rfl
theorem vm0 (x : Va) : vMul x va0 = va0 := by cases x <;> rfl
theorem v1m (x : Va) : vMul va1 x = x := by
  rcases x with _ | ⟨c, b, m⟩
  · rfl
  · show some (1 * c, 0 + b, 1 * m) = some (c, b, m)
    rw [Nat.one_mul, Int.zero_add, Nat.one_mul]
theorem vmC (x y : Va) : vMul x y = vMul y x := by
  rcases x with _ | ⟨c, b, m⟩ <;> rcases y with _ | ⟨d, e, k⟩
  · rfl
  · rfl
  · rfl
  · show some (c * d, b + e, m * k) = some (d * c, e + b, k * m)
    rw [Nat.mul_comm c, Int.add_comm b, Nat.mul_comm m]
theorem vm1 (x : Va) : vMul x va1 = x := by rw [vmC, v1m]
theorem vmA (x y z : Va) : vMul (vMul x y) z = vMul x (vMul y z) := by
  rcases x with _ | ⟨c, b, m⟩ <;> rcases y with _ | ⟨d, e, k⟩ <;> rcases z with _ | ⟨f, g, l⟩ <;> first | rfl | skip
  show some (c * d * f, b + e + g, m * k * l) = some (c * (d * f), b + (e + g), m * (k * l))
  rw [Nat.mul_assoc, Int.add_assoc, Nat.mul_assoc]
theorem vA_c (x y : Va) : vAdd x y = vAdd y x := by
  rcases x with _ | ⟨c, b, m⟩ <;> rcases y with _ | ⟨d, e, k⟩
  · rfl
  · rfl
  · rfl
  · show (if b < e then some (c + d, e, k) else if e < b then some (c + d, b, m) else some (c + d, b, m + k)) = (if e < b then some (d + c, b, m) else if b < e then some (d + c, e, k) else some (d + c, e, k + m))
    rw [Nat.add_comm d c, Nat.add_comm k m]
    by_cases h1 : b < e
    · rw [if_pos h1, if_neg (by omega), if_pos h1]
    · rw [if_neg h1]
      by_cases h2 : e < b
      · rw [if_pos h2, if_pos h2]
      · rw [if_neg h2, if_neg h2, if_neg h1, show b = e by omega]
theorem vAdd_ss (c d m k : Nat) (b e : Int) : vAdd (some (c, b, m)) (some (d, e, k)) = if b < e then some (c + d, e, k) else if e < b then some (c + d, b, m) else some (c + d, b, m + k) := rfl
theorem vMul_ss (c d m k : Nat) (b e : Int) : vMul (some (c, b, m)) (some (d, e, k)) = some (c * d, b + e, m * k) := rfl
theorem vA_a (x y z : Va) : vAdd (vAdd x y) z = vAdd x (vAdd y z) := by
  rcases x with _ | ⟨c, b, m⟩
  · rfl
  rcases y with _ | ⟨d, e, k⟩
  · rfl
  rcases z with _ | ⟨f, g, l⟩
  · exact va_0 _
  rw [vAdd_ss, vAdd_ss]
  by_cases h1 : b < e
  · rw [if_pos h1]
    by_cases h2 : e < g
    · rw [if_pos h2, vAdd_ss, vAdd_ss, if_pos h2, if_pos (by omega), Nat.add_assoc]
    · rw [if_neg h2]
      by_cases h3 : g < e
      · rw [if_pos h3, vAdd_ss, vAdd_ss, if_neg h2, if_pos h3, if_pos h1, Nat.add_assoc]
      · rw [if_neg h3, vAdd_ss, vAdd_ss, if_neg h2, if_neg h3, if_pos h1, Nat.add_assoc]
  · rw [if_neg h1]
    by_cases h0 : e < b
    · rw [if_pos h0]
      by_cases h2 : e < g
      · rw [if_pos h2, vAdd_ss, vAdd_ss, Nat.add_assoc]
      · rw [if_neg h2]
        by_cases h3 : g < e
        · rw [if_pos h3, vAdd_ss, vAdd_ss, if_neg (by omega), if_pos (by omega), if_neg (by omega), if_pos (by omega), Nat.add_assoc]
        · rw [if_neg h3, vAdd_ss, vAdd_ss, if_neg (by omega), if_pos (by omega), if_neg (by omega), if_pos (by omega), Nat.add_assoc]
    · rw [if_neg h0]
      by_cases h2 : e < g
      · rw [if_pos h2, vAdd_ss, vAdd_ss, if_pos (by omega), if_pos (by omega), Nat.add_assoc]
      · rw [if_neg h2]
        by_cases h3 : g < e
        · rw [if_pos h3, vAdd_ss, vAdd_ss, if_neg (by omega), if_pos (by omega), if_neg (by omega), if_neg (by omega), Nat.add_assoc]
        · rw [if_neg h3, vAdd_ss, vAdd_ss, if_neg (by omega), if_neg (by omega), if_neg (by omega), if_neg (by omega), Nat.add_assoc, Nat.add_assoc]
theorem vD (x y z : Va) : vMul x (vAdd y z) = vAdd (vMul x y) (vMul x z) := by
  rcases x with _ | ⟨c, b, m⟩
  · rfl
  rcases y with _ | ⟨d, e, k⟩
  · rfl
  rcases z with _ | ⟨f, g, l⟩
  · rfl
  rw [vAdd_ss, vMul_ss, vMul_ss, vAdd_ss]
  by_cases h2 : e < g
  · rw [if_pos h2, if_pos (show b + e < b + g by omega), vMul_ss, Nat.mul_add]
  · rw [if_neg h2, if_neg (show ¬b + e < b + g by omega)]
    by_cases h3 : g < e
    · rw [if_pos h3, if_pos (show b + g < b + e by omega), vMul_ss, Nat.mul_add]
    · rw [if_neg h3, if_neg (show ¬b + g < b + e by omega), vMul_ss, Nat.mul_add, Nat.mul_add]
theorem vA_4 (a b c d : Va) : vAdd (vAdd a b) (vAdd c d) = vAdd (vAdd a c) (vAdd b d) := by
  rw [vA_a, vA_a, ← vA_a b c d, vA_c b c, vA_a c b d]
/-- one way, or none -/
def vI (P : Prop) [Decidable P] (w : Int) : Va := if P then some (1, w, 1) else none
theorem vI_m (P Q : Prop) [Decidable P] [Decidable Q] (w u : Int) : vMul (vI P w) (vI Q u) = vI (P ∧ Q) (w + u) := by
  unfold vI
  by_cases hP : P
  · by_cases hQ : Q
    · rw [if_pos hP, if_pos hQ, if_pos ⟨hP, hQ⟩]; rfl
    · rw [if_pos hP, if_neg hQ, if_neg (fun h => hQ h.2)]; rfl
  · rw [if_neg hP, if_neg (show ¬(P ∧ Q) from fun h => hP h.1)]; rfl
theorem vI_c {P Q : Prop} [Decidable P] [Decidable Q] {w u : Int} (h : P ↔ Q) (e : w = u) : vI P w = vI Q u := by
  unfold vI
  subst e
  by_cases hP : P
  · rw [if_pos hP, if_pos (h.mp hP)]
  · rw [if_neg hP, if_neg (fun z => hP (h.mpr z))]
/-- bounds: the number, the sum -/
def vB (w : Nat) (β : Nat) (x : Va) : Prop := ∀ c b m, x = some (c, b, m) → 0 < c ∧ c ≤ w ∧ 0 < m ∧ m ≤ w ∧ b.natAbs ≤ β
theorem vB_0 (w β : Nat) : vB w β va0 := fun c b m h => by cases h
theorem vB_add {w v β : Nat} {x y : Va} (hx : vB w β x) (hy : vB v β y) : vB (w + v) β (vAdd x y) := by
  rcases x with _ | ⟨c, b, m⟩
  · intro c b m h
    obtain ⟨h1, h2, h3, h4, h5⟩ := hy c b m h
    exact ⟨h1, by omega, h3, by omega, h5⟩
  rcases y with _ | ⟨d, e, k⟩
  · intro c' b' m' h
    obtain ⟨h1, h2, h3, h4, h5⟩ := hx c' b' m' h
    exact ⟨h1, by omega, h3, by omega, h5⟩
  obtain ⟨h1, h2, h3, h4, h5⟩ := hx c b m rfl
  obtain ⟨g1, g2, g3, g4, g5⟩ := hy d e k rfl
  intro c' b' m' h
  rw [vAdd_ss] at h
  by_cases z1 : b < e
  · rw [if_pos z1] at h; cases h
    exact ⟨by omega, by omega, by omega, by omega, by omega⟩
  · rw [if_neg z1] at h
    by_cases z2 : e < b
    · rw [if_pos z2] at h; cases h
      exact ⟨by omega, by omega, by omega, by omega, by omega⟩
    · rw [if_neg z2] at h; cases h
      exact ⟨by omega, by omega, by omega, by omega, by omega⟩
theorem vB_mul {w v β γ : Nat} {x y : Va} (hx : vB w β x) (hy : vB v γ y) : vB (w * v) (β + γ) (vMul x y) := by
  rcases x with _ | ⟨c, b, m⟩
  · intro c b m h; cases h
  rcases y with _ | ⟨d, e, k⟩
  · intro c b m h; cases h
  obtain ⟨h1, h2, h3, h4, h5⟩ := hx c b m rfl
  obtain ⟨g1, g2, g3, g4, g5⟩ := hy d e k rfl
  intro c' b' m' h
  rw [vMul_ss] at h; cases h
  exact ⟨Nat.mul_pos h1 g1, Nat.mul_le_mul h2 g2, Nat.mul_pos h3 g3, Nat.mul_le_mul h4 g4, by omega⟩
theorem vB_le {w v β γ : Nat} {x : Va} (hx : vB w β x) (h1 : w ≤ v) (h2 : β ≤ γ) : vB v γ x := by
  intro c b m h
  obtain ⟨h1, h2, h3, h4, h5⟩ := hx c b m h
  exact ⟨h1, by omega, h3, by omega, by omega⟩
theorem vB_1 (β : Nat) : vB 1 β va1 := by
  intro c b m h; cases h
  exact ⟨by omega, by omega, by omega, by omega, by omega⟩
theorem vB_I (P : Prop) [Decidable P] {w : Int} {β : Nat} (h : w.natAbs ≤ β) : vB 1 β (vI P w) := by
  unfold vI
  by_cases hP : P
  · rw [if_pos hP]; intro c b m h; cases h
    exact ⟨by omega, by omega, by omega, by omega, by omega⟩
  · rw [if_neg hP]; exact vB_0 _ _
/-- all sums as nothing -/
def vZ : Va → Va
  | none => none
  | some (c, _, _) => some (c, 0, c)
theorem vZ_a (x y : Va) : vZ (vAdd x y) = vAdd (vZ x) (vZ y) := by
  rcases x with _ | ⟨c, b, m⟩
  · rfl
  rcases y with _ | ⟨d, e, k⟩
  · rfl
  rw [vAdd_ss]
  have e0 : vAdd (vZ (some (c, b, m))) (vZ (some (d, e, k))) = some (c + d, 0, c + d) := rfl
  rw [e0]
  by_cases z1 : b < e
  · rw [if_pos z1]; rfl
  · rw [if_neg z1]
    by_cases z2 : e < b
    · rw [if_pos z2]; rfl
    · rw [if_neg z2]; rfl
theorem vZ_m (x y : Va) : vZ (vMul x y) = vMul (vZ x) (vZ y) := by
  rcases x with _ | ⟨c, b, m⟩
  · rfl
  rcases y with _ | ⟨d, e, k⟩
  · rfl
  rfl
theorem vZ_I (P : Prop) [Decidable P] (w : Int) : vZ (vI P w) = vI P 0 := by
  unfold vI
  by_cases hP : P
  · rw [if_pos hP, if_pos hP]; rfl
  · rw [if_neg hP, if_neg hP]; rfl
/-- ways: of each knot its state -/
abbrev As := Nat → Nat
def aU (a : As) (k s : Nat) : As := fun j => if j = k then s else a j
theorem aU_s (a : As) (k s : Nat) : aU a k s k = s := if_pos rfl
theorem aU_o (a : As) {j k : Nat} (s : Nat) (h : j ≠ k) : aU a k s j = a j := if_neg h
theorem aU_c (a : As) {j k : Nat} (s t : Nat) (h : j ≠ k) : aU (aU a j s) k t = aU (aU a k t) j s := by
  funext i
  unfold aU
  by_cases h1 : i = k
  · rw [if_pos h1, if_neg (by omega), if_pos h1]
  · rw [if_neg h1]
    by_cases h2 : i = j
    · rw [if_pos h2, if_pos h2]
    · rw [if_neg h2, if_neg h2, if_neg h1]
theorem aU_i (a : As) (k : Nat) : aU a k (a k) = a := by
  funext i
  unfold aU
  by_cases h : i = k
  · rw [if_pos h, h]
  · rw [if_neg h]
def v4 (f : Nat → Va) : Va := vAdd (vAdd (f 0) (f 1)) (vAdd (f 2) (f 3))
theorem v4_c {f g : Nat → Va} (h : ∀ s, s < 4 → f s = g s) : v4 f = v4 g := by
  unfold v4
  rw [h 0 (by omega), h 1 (by omega), h 2 (by omega), h 3 (by omega)]
theorem v4_a (f g : Nat → Va) : v4 (fun s => vAdd (f s) (g s)) = vAdd (v4 f) (v4 g) := by
  unfold v4
  rw [vA_4 (f 0) (g 0), vA_4 (f 2) (g 2), vA_4]
theorem v4_m (x : Va) (f : Nat → Va) : v4 (fun s => vMul x (f s)) = vMul x (v4 f) := by
  unfold v4
  rw [vD, vD, vD]
theorem v4_0 : v4 (fun _ => va0) = va0 := rfl
theorem v4_s (f : Nat → Nat → Va) : v4 (fun s => v4 (fun t => f s t)) = v4 (fun t => v4 (fun s => f s t)) := by
  unfold v4
  rw [vA_4 (vAdd (f 0 0) (f 0 1)), vA_4 (f 0 0), vA_4 (f 0 2), vA_4 (vAdd (f 2 0) (f 2 1)), vA_4 (f 2 0), vA_4 (f 2 2), vA_4 (vAdd (vAdd (f 0 0) (f 1 0)) (vAdd (f 0 1) (f 1 1)))]
  rw [vA_4 (vAdd (f 0 0) (f 1 0)), vA_4 (vAdd (f 0 2) (f 1 2))]
theorem v4_d {f : Nat → Va} {s : Nat} (hs : s < 4) (h : ∀ t, t < 4 → t ≠ s → f t = va0) : v4 f = f s := by
  unfold v4
  rcases (by omega : s = 0 ∨ s = 1 ∨ s = 2 ∨ s = 3) with e | e | e | e <;> subst e
  · rw [h 1 (by omega) (by omega), h 2 (by omega) (by omega), h 3 (by omega) (by omega), va_0, va_0, va_0]
  · rw [h 0 (by omega) (by omega), h 2 (by omega) (by omega), h 3 (by omega) (by omega), v0a, va_0, va_0]
  · rw [h 1 (by omega) (by omega), h 0 (by omega) (by omega), h 3 (by omega) (by omega), va_0, va_0, v0a]
  · rw [h 1 (by omega) (by omega), h 2 (by omega) (by omega), h 0 (by omega) (by omega), va_0, v0a, v0a]
/-- the sum over the states of the knots of a set, of those below k -/
def Sm (S : Nat → Bool) : Nat → (As → Va) → As → Va
  | 0, F, a => F a
  | k + 1, F, a => if S k = true then v4 (fun s => Sm S k F (aU a k s)) else Sm S k F a
theorem Sm_c {S : Nat → Bool} {F G : As → Va} (h : ∀ a, F a = G a) : ∀ (k : Nat) (a : As), Sm S k F a = Sm S k G a := by
  have e : F = G := funext h
  subst e
  intros; rfl
theorem Sm_S {S T : Nat → Bool} : ∀ (k : Nat) (F : As → Va) (a : As), (∀ i, i < k → S i = T i) → Sm S k F a = Sm T k F a := by
  intro k
  induction k with
  | zero => intros; rfl
  | succ k ih =>
    intro F a h
    rw [Sm, Sm, h k (by omega)]
    split
    · exact v4_c fun s _ => ih F _ (fun i hi => h i (by omega))
    · exact ih F _ (fun i hi => h i (by omega))
theorem Sm_0 {S : Nat → Bool} : ∀ (k : Nat) (F : As → Va) (a : As), (∀ i, i < k → S i = false) → Sm S k F a = F a := by
  intro k
  induction k with
  | zero => intros; rfl
  | succ k ih =>
    intro F a h
    rw [Sm, if_neg (by rw [h k (by omega)]; decide)]
    exact ih F _ (fun i hi => h i (by omega))
theorem Sm_a {S : Nat → Bool} (F G : As → Va) : ∀ (k : Nat) (a : As), Sm S k (fun a => vAdd (F a) (G a)) a = vAdd (Sm S k F a) (Sm S k G a) := by
  intro k
  induction k with
  | zero => intros; rfl
  | succ k ih =>
    intro a
    rw [Sm, Sm, Sm]
    split
    · rw [← v4_a]
      exact v4_c fun s _ => ih _
    · exact ih a
theorem Sm_m {S : Nat → Bool} (A F : As → Va) : ∀ (k : Nat) (a : As), (∀ i, i < k → S i = true → ∀ b s, A (aU b i s) = A b) → Sm S k (fun a => vMul (A a) (F a)) a = vMul (A a) (Sm S k F a) := by
  intro k
  induction k with
  | zero => intros; rfl
  | succ k ih =>
    intro a h
    rw [Sm, Sm]
    by_cases c : S k = true
    · rw [if_pos c, if_pos c, ← v4_m]
      refine v4_c fun s _ => ?_
      rw [ih _ (fun i hi => h i (by omega)), h k (by omega) c]
    · rw [if_neg c, if_neg c]
      exact ih a (fun i hi => h i (by omega))
theorem Sm_v4 {S : Nat → Bool} (F : Nat → As → Va) (k : Nat) (a : As) : Sm S k (fun a => v4 (fun s => F s a)) a = v4 (fun s => Sm S k (F s) a) := by
  unfold v4
  rw [Sm_a, Sm_a, Sm_a]
theorem Sm_u {S : Nat → Bool} (F : As → Va) (j s : Nat) : ∀ (k : Nat) (a : As), k ≤ j → Sm S k (fun a => F (aU a j s)) a = Sm S k F (aU a j s) := by
  intro k
  induction k with
  | zero => intros; rfl
  | succ k ih =>
    intro a h
    rw [Sm, Sm]
    split
    · refine v4_c fun t _ => ?_
      rw [ih _ (by omega), aU_c _ _ _ (by omega)]
    · exact ih a (by omega)
theorem Sm_split {S T : Nat → Bool} (F : As → Va) : ∀ (k : Nat) (a : As), (∀ i, i < k → ¬(S i = true ∧ T i = true)) → Sm (fun i => S i || T i) k F a = Sm S k (fun a => Sm T k F a) a := by
  intro k
  induction k with
  | zero => intros; rfl
  | succ k ih =>
    intro a h
    have ih' := fun a => ih a (fun i hi => h i (by omega))
    rw [Sm]
    by_cases c : S k = true
    · have c2 : ¬T k = true := fun z => h k (by omega) ⟨c, z⟩
      rw [if_pos (by rw [c]; rfl), Sm, if_pos c]
      refine v4_c fun s _ => ?_
      rw [ih']
      refine Sm_c (fun b => ?_) _ _
      rw [Sm, if_neg c2]
    · by_cases d : T k = true
      · rw [if_pos (by rw [d, Bool.or_true]), Sm, if_neg c]
        have e : (fun a => Sm T (k + 1) F a) = fun a => v4 (fun s => (fun a => Sm T k F (aU a k s)) a) := by
          funext b
          rw [Sm, if_pos d]
        rw [e, Sm_v4]
        refine v4_c fun s _ => ?_
        rw [ih']
        exact (Sm_u (fun a => Sm T k F a) k s k a (by omega)).symm
      · rw [if_neg (by rw [Bool.or_eq_true]; exact fun z => z.elim c d), Sm, if_neg c, ih']
        refine Sm_c (fun b => ?_) _ _
        rw [Sm, if_neg d]
/-- products over i below m -/
def Pr : Nat → (Nat → Va) → Va
  | 0, _ => va1
  | m + 1, f => vMul (Pr m f) (f m)
theorem Pr_c {f g : Nat → Va} : ∀ (m : Nat), (∀ i, i < m → f i = g i) → Pr m f = Pr m g := by
  intro m
  induction m with
  | zero => intros; rfl
  | succ m ih => intro h; rw [Pr, Pr, ih (fun i hi => h i (by omega)), h m (by omega)]
theorem Pr_m (f g : Nat → Va) : ∀ (m : Nat), Pr m (fun i => vMul (f i) (g i)) = vMul (Pr m f) (Pr m g) := by
  intro m
  induction m with
  | zero => exact (v1m _).symm
  | succ m ih => rw [Pr, Pr, Pr, ih, vmA, vmA, ← vmA (Pr m g), vmC (Pr m g) (f m), vmA (f m)]
theorem Pr_1 : ∀ (m : Nat), Pr m (fun _ => va1) = va1 := by
  intro m
  induction m with
  | zero => rfl
  | succ m ih => rw [Pr, ih]; rfl
/-- THE ELIMINATION -/
theorem elim (n m : Nat) (S : Nat → Nat → Bool) (loc : Nat → As → Va) (par : Nat → Nat) (T : Nat → As → Va)
    (hp : ∀ i, i < m → i < par i)
    (hd : ∀ i j k, i < j → j < m → k < n → ¬(S i k = true ∧ S j k = true))
    (hl : ∀ i j, i < j → j < m → ∀ k, k < n → S i k = true → ∀ b s, loc j (aU b k s) = loc j b)
    (ht : ∀ j i, j < i → i < m → i < par j → ∀ k, k < n → S i k = true → ∀ b s, T j (aU b k s) = T j b)
    (hT : ∀ i, i < m → ∀ a, T i a = Sm (S i) n (fun a => vMul (loc i a) (Pr i (fun j => if par j = i then T j a else va1))) a)
    (a : As) : Sm (fun k => (List.range m).any (fun i => S i k)) n (fun a => Pr m (fun i => loc i a)) a = Pr m (fun j => if m ≤ par j then T j a else va1) := by
  have key : ∀ d x, d + x = m → Sm (fun k => (List.range m).any (fun i => decide (x ≤ i) && S i k)) n (fun a => vMul (Pr m (fun i => if x ≤ i then loc i a else va1)) (Pr x (fun j => if x ≤ par j then T j a else va1))) a = Pr m (fun j => if m ≤ par j then T j a else va1) := by
    intro d
    induction d with
    | zero =>
      intro x hx
      have hx : x = m := by omega
      subst hx
      rw [Sm_0]
      · rw [Pr_c (g := fun _ => va1) x (fun i hi => if_neg (by omega)), Pr_1, v1m]
      · intro i hi
        rw [List.any_eq_false]
        intro j hj
        rw [List.mem_range] at hj
        rw [decide_eq_false (by omega), Bool.false_and]
        decide
    | succ d ih =>
      intro x hx
      rw [← ih (x + 1) (by omega)]
      have e1 : ∀ a, vMul (Pr m (fun i => if x ≤ i then loc i a else va1)) (Pr x (fun j => if x ≤ par j then T j a else va1)) = vMul (vMul (Pr m (fun i => if x + 1 ≤ i then loc i a else va1)) (Pr x (fun j => if x + 1 ≤ par j then T j a else va1))) (vMul (loc x a) (Pr x (fun j => if par j = x then T j a else va1))) := by
        intro a
        have s1 : Pr m (fun i => if x ≤ i then loc i a else va1) = vMul (Pr m (fun i => if x + 1 ≤ i then loc i a else va1)) (loc x a) := by
          have q : ∀ m, x < m → Pr m (fun i => if x ≤ i then loc i a else va1) = vMul (Pr m (fun i => if x + 1 ≤ i then loc i a else va1)) (loc x a) := by
            intro m
            induction m with
            | zero => intro h; omega
            | succ m ihm =>
              intro h
              rw [Pr, Pr]
              rcases Nat.lt_or_ge x m with c | c
              · rw [ihm c, if_pos (by omega), if_pos (by omega), vmA, vmA, vmC (loc x a)]
              · have : x = m := by omega
                subst this
                rw [if_pos (Nat.le_refl _), if_neg (by omega), vm1, Pr_c (g := fun _ => va1) x (fun i hi => if_neg (by omega)), Pr_c (f := fun i => if x + 1 ≤ i then loc i a else va1) (g := fun _ => va1) x (fun i hi => if_neg (by omega))]
          exact q m (by omega)
        have s2 : Pr x (fun j => if x ≤ par j then T j a else va1) = vMul (Pr x (fun j => if x + 1 ≤ par j then T j a else va1)) (Pr x (fun j => if par j = x then T j a else va1)) := by
          rw [← Pr_m]
          refine Pr_c x fun i hi => ?_
          rcases Nat.lt_trichotomy (par i) x with c | c | c
          · rw [if_neg (by omega), if_neg (by omega), if_neg (by omega), v1m]
          · rw [if_pos (by omega), if_neg (by omega), if_pos (by omega), v1m]
          · rw [if_pos (by omega), if_pos (by omega), if_neg (by omega), vm1]
        rw [s1, s2, vmA, vmA, ← vmA (loc x a), vmC (loc x a), vmA (Pr x _)]
      rw [Sm_c e1]
      have e2 : Sm (fun k => (List.range m).any (fun i => decide (x ≤ i) && S i k)) = Sm (fun k => (fun k => (List.range m).any (fun i => decide (x + 1 ≤ i) && S i k)) k || S x k) := by
        congr 1
        funext k
        rw [Bool.eq_iff_iff, Bool.or_eq_true, List.any_eq_true, List.any_eq_true]
        constructor
        · rintro ⟨i, h1, h2⟩
          rw [Bool.and_eq_true, decide_eq_true_eq] at h2
          rcases Nat.lt_or_ge x i with c | c
          · left
            refine ⟨i, h1, ?_⟩
            rw [Bool.and_eq_true, decide_eq_true_eq]
            exact ⟨c, h2.2⟩
          · right
            rw [show x = i by omega]
            exact h2.2
        · rintro (⟨i, h1, h2⟩ | h)
          · rw [Bool.and_eq_true, decide_eq_true_eq] at h2
            refine ⟨i, h1, ?_⟩
            rw [Bool.and_eq_true, decide_eq_true_eq]
            exact ⟨by omega, h2.2⟩
          · refine ⟨x, List.mem_range.mpr (by omega), ?_⟩
            rw [Bool.and_eq_true, decide_eq_true_eq]
            exact ⟨Nat.le_refl _, h⟩
      rw [e2, Sm_split]
      · refine Sm_c (fun a => ?_) _ _
        rw [Sm_m, ← hT x (by omega)]
        · rw [vmA]
          congr 1
          rw [Pr, if_pos (show x + 1 ≤ par x from hp x (by omega))]
        · intro i hi hs b s
          have q1 : Pr m (fun i_1 => if x + 1 ≤ i_1 then loc i_1 (aU b i s) else va1) = Pr m (fun i => if x + 1 ≤ i then loc i b else va1) := by
            refine Pr_c m fun j hj => ?_
            by_cases c : x + 1 ≤ j
            · rw [if_pos c, if_pos c, hl x j c hj i hi hs]
            · rw [if_neg c, if_neg c]
          have q2 : Pr x (fun j => if x + 1 ≤ par j then T j (aU b i s) else va1) = Pr x (fun j => if x + 1 ≤ par j then T j b else va1) := by
            refine Pr_c x fun j hj => ?_
            by_cases c : x + 1 ≤ par j
            · rw [if_pos c, if_pos c, ht j x hj (by omega) c i hi hs]
            · rw [if_neg c, if_neg c]
          rw [q1, q2]
      · rintro i hi ⟨z1, z2⟩
        rw [List.any_eq_true] at z1
        obtain ⟨j, h1, h2⟩ := z1
        rw [Bool.and_eq_true, decide_eq_true_eq] at h2
        exact hd x j i h2.1 (List.mem_range.mp h1) hi ⟨z2, h2.2⟩
  have k0 := key m 0 (by omega)
  rw [← k0]
  have e3 : (fun k => (List.range m).any (fun i => S i k)) = fun k => (List.range m).any (fun i => decide (0 ≤ i) && S i k) := by
    funext k
    congr 1
  rw [e3]
  refine Sm_c (fun a => ?_) _ _
  rw [show Pr 0 (fun j => if 0 ≤ par j then T j a else va1) = va1 from rfl, vm1]
  exact Pr_c m fun i _ => (if_pos (Nat.zero_le _)).symm
/-- the tables -/
def Tb (n : Nat) (S : Nat → Nat → Bool) (loc : Nat → As → Va) (par : Nat → Nat) : Nat → Nat → As → Va
  | 0, _, _ => va1
  | i + 1, j, a => if j = i then Sm (S i) n (fun a => vMul (loc i a) (Pr i (fun j => if par j = i then Tb n S loc par i j a else va1))) a else Tb n S loc par i j a
def Tt (n : Nat) (S : Nat → Nat → Bool) (loc : Nat → As → Va) (par : Nat → Nat) (j : Nat) (a : As) : Va := Tb n S loc par (j + 1) j a
theorem Tb_T {n : Nat} {S : Nat → Nat → Bool} {loc : Nat → As → Va} {par : Nat → Nat} {j : Nat} (a : As) : ∀ i, j < i → Tb n S loc par i j a = Tt n S loc par j a := by
  intro i
  induction i with
  | zero => intro h; omega
  | succ i ih =>
    intro h
    rcases Nat.lt_or_ge j i with c | c
    · rw [Tb, if_neg (by omega)]; exact ih c
    · rw [show i = j by omega]; rfl
theorem Tt_e {n : Nat} {S : Nat → Nat → Bool} {loc : Nat → As → Va} {par : Nat → Nat} (i : Nat) (a : As) : Tt n S loc par i a = Sm (S i) n (fun a => vMul (loc i a) (Pr i (fun j => if par j = i then Tt n S loc par j a else va1))) a := by
  unfold Tt
  rw [Tb, if_pos rfl]
  refine Sm_c (fun a => ?_) _ _
  congr 1
  refine Pr_c i fun j hj => ?_
  split
  · exact Tb_T a i hj
  · rfl
/-- what hangs on the knots of a set alone -/
def Dp (n : Nat) (D : Nat → Bool) (F : As → Va) : Prop := ∀ a b : As, (∀ k, k < n → D k = true → a k = b k) → F a = F b
theorem Dp_Sm {n : Nat} {D S : Nat → Bool} {F : As → Va} (h : Dp n (fun k => D k || S k) F) : ∀ k, k ≤ n → Dp n (fun i => D i || (S i && decide (k ≤ i))) (Sm S k F) := by
  intro k
  induction k with
  | zero =>
    intro _ a b hab
    refine h a b fun i hi hd => hab i hi ?_
    show (D i || S i && decide (0 ≤ i)) = true
    rw [decide_eq_true (Nat.zero_le i), Bool.and_true]
    exact hd
  | succ k ih =>
    intro hk a b hab
    have ih := ih (by omega)
    rw [Sm, Sm]
    by_cases c : S k = true
    · rw [if_pos c, if_pos c]
      refine v4_c fun s _ => ih _ _ fun i hi hd => ?_
      by_cases e : i = k
      · subst e; rw [aU_s, aU_s]
      · rw [aU_o _ _ e, aU_o _ _ e]
        refine hab i hi ?_
        rw [Bool.or_eq_true, Bool.and_eq_true, decide_eq_true_eq] at hd
        rw [Bool.or_eq_true, Bool.and_eq_true, decide_eq_true_eq]
        rcases hd with z | ⟨z1, z2⟩
        · exact Or.inl z
        · exact Or.inr ⟨z1, by omega⟩
    · rw [if_neg c, if_neg c]
      refine ih _ _ fun i hi hd => hab i hi ?_
      rw [Bool.or_eq_true, Bool.and_eq_true, decide_eq_true_eq] at hd
      rw [Bool.or_eq_true, Bool.and_eq_true, decide_eq_true_eq]
      rcases hd with z | ⟨z1, z2⟩
      · exact Or.inl z
      · by_cases e : i = k
        · subst e; exact absurd z1 c
        · exact Or.inr ⟨z1, by omega⟩
theorem Dp_n {n : Nat} {D S : Nat → Bool} {F : As → Va} (h : Dp n (fun k => D k || S k) F) : Dp n D (Sm S n F) := by
  intro a b hab
  refine Dp_Sm h n (Nat.le_refl _) a b fun i hi hd => hab i hi ?_
  have hd : (D i || S i && decide (n ≤ i)) = true := hd
  rw [decide_eq_false (by omega), Bool.and_false, Bool.or_false] at hd
  exact hd
theorem Dp_u {n : Nat} {D : Nat → Bool} {F : As → Va} (h : Dp n D F) {k : Nat} (hk : D k = false) (b : As) (s : Nat) : F (aU b k s) = F b := by
  refine h _ _ fun i _ hd => ?_
  by_cases e : i = k
  · subst e; rw [hk] at hd; cases hd
  · exact aU_o _ _ e
theorem Dp_mono {n : Nat} {D E : Nat → Bool} {F : As → Va} (h : Dp n D F) (hs : ∀ k, k < n → D k = true → E k = true) : Dp n E F := fun a b hab => h a b fun k hk hd => hab k hk (hs k hk hd)
theorem Dp_m {n : Nat} {D : Nat → Bool} {F G : As → Va} (h : Dp n D F) (g : Dp n D G) : Dp n D (fun a => vMul (F a) (G a)) := fun a b hab => by show vMul (F a) (G a) = vMul (F b) (G b); rw [h a b hab, g a b hab]
theorem Dp_P {n : Nat} {D : Nat → Bool} {F : Nat → As → Va} : ∀ m, (∀ i, i < m → Dp n D (F i)) → Dp n D (fun a => Pr m (fun i => F i a)) := fun m h a b hab => Pr_c m fun i hi => h i hi a b hab
theorem Dp_1 {n : Nat} {D : Nat → Bool} (x : Va) : Dp n D (fun _ => x) := fun _ _ _ => rfl
/-- bounds of sums -/
theorem vB_v4 {w β : Nat} {f : Nat → Va} (h : ∀ s, s < 4 → vB w β (f s)) : vB (4 * w) β (v4 f) := by
  unfold v4
  exact vB_le (vB_add (vB_add (h 0 (by omega)) (h 1 (by omega))) (vB_add (h 2 (by omega)) (h 3 (by omega)))) (by omega) (Nat.le_refl _)
def cS (S : Nat → Bool) : Nat → Nat
  | 0 => 0
  | k + 1 => cS S k + (if S k = true then 1 else 0)
theorem vB_Sm {S : Nat → Bool} {w β : Nat} {F : As → Va} (h : ∀ a, vB w β (F a)) : ∀ (k : Nat) (a : As), vB (4 ^ cS S k * w) β (Sm S k F a) := by
  intro k
  induction k with
  | zero => intro a; rw [cS, Nat.pow_zero, Nat.one_mul]; exact h a
  | succ k ih =>
    intro a
    rw [cS, Sm]
    by_cases c : S k = true
    · rw [if_pos c, if_pos c, Nat.pow_succ, Nat.mul_comm (4 ^ _) 4, Nat.mul_assoc]
      exact vB_v4 fun s _ => ih _
    · rw [if_neg c, if_neg c, Nat.add_zero]
      exact ih a
theorem vZ_v4 (f : Nat → Va) : vZ (v4 f) = v4 (fun s => vZ (f s)) := by
  unfold v4
  rw [vZ_a, vZ_a, vZ_a]
theorem vZ_Sm {S : Nat → Bool} {F : As → Va} : ∀ (k : Nat) (a : As), vZ (Sm S k F a) = Sm S k (fun a => vZ (F a)) a := by
  intro k
  induction k with
  | zero => intros; rfl
  | succ k ih =>
    intro a
    rw [Sm, Sm]
    split
    · rw [vZ_v4]
      exact v4_c fun s _ => ih _
    · exact ih a
/-- what Sm sees -/
def Ob (D : Nat → Bool) (k : Nat) (a b : As) : Prop := (∀ i, ¬(i < k ∧ D i = true) → b i = a i) ∧ ∀ i, i < k → D i = true → b i < 4
theorem Sm_o {D : Nat → Bool} {F G : As → Va} : ∀ (k : Nat) (a : As), (∀ b, Ob D k a b → F b = G b) → Sm D k F a = Sm D k G a := by
  intro k
  induction k with
  | zero => intro a h; exact h a ⟨fun _ _ => rfl, fun i hi => by omega⟩
  | succ k ih =>
    intro a h
    rw [Sm, Sm]
    by_cases c : D k = true
    · rw [if_pos c, if_pos c]
      refine v4_c fun s hs => ih _ fun b hb => h b ⟨fun i hi => ?_, fun i hi hd => ?_⟩
      · have hik : i ≠ k := fun e => hi ⟨by omega, by rw [e]; exact c⟩
        rw [hb.1 i (fun z => hi ⟨by omega, z.2⟩), aU_o _ _ hik]
      · by_cases e : i = k
        · subst e
          rw [hb.1 i (fun z => by omega), aU_s]; exact hs
        · exact hb.2 i (by omega) hd
    · rw [if_neg c, if_neg c]
      refine ih _ fun b hb => h b ⟨fun i hi => hb.1 i (fun z => hi ⟨by omega, z.2⟩), fun i hi hd => ?_⟩
      by_cases e : i = k
      · subst e; exact absurd hd c
      · exact hb.2 i (by omega) hd
/-- the code of the states of a set's knots below k -/
def cd (D : Nat → Bool) : Nat → As → Nat
  | 0, _ => 0
  | k + 1, a => if D k = true then 4 * cd D k a + a k else cd D k a
theorem cd_c {D : Nat → Bool} {a b : As} : ∀ k, (∀ i, i < k → D i = true → a i = b i) → cd D k a = cd D k b := by
  intro k
  induction k with
  | zero => intros; rfl
  | succ k ih =>
    intro h
    rw [cd, cd, ih (fun i hi => h i (by omega))]
    by_cases c : D k = true
    · rw [if_pos c, if_pos c, h k (by omega) c]
    · rw [if_neg c, if_neg c]
theorem cd_D {D E : Nat → Bool} {a : As} : ∀ k, (∀ i, i < k → D i = E i) → cd D k a = cd E k a := by
  intro k
  induction k with
  | zero => intros; rfl
  | succ k ih =>
    intro h
    rw [cd, cd, ih (fun i hi => h i (by omega)), h k (by omega)]
theorem cd_lt {D : Nat → Bool} {a : As} : ∀ k, (∀ i, i < k → D i = true → a i < 4) → cd D k a < 4 ^ cS D k := by
  intro k
  induction k with
  | zero => intro _; exact Nat.one_pos
  | succ k ih =>
    intro h
    have := ih (fun i hi => h i (by omega))
    rw [cd, cS]
    by_cases c : D k = true
    · have := h k (by omega) c
      rw [if_pos c, if_pos c, Nat.pow_succ]
      omega
    · rw [if_neg c, if_neg c]; exact this
theorem Sm_delta {D : Nat → Bool} (K : As → Va) : ∀ (k : Nat) (a : As), (∀ i, i < k → D i = true → a i < 4) → Sm D k (fun b => if cd D k b = cd D k a then K b else va0) a = K a := by
  intro k
  induction k with
  | zero => intro a _; rw [Sm]; exact if_pos rfl
  | succ k ih =>
    intro a h
    rw [Sm]
    by_cases c : D k = true
    · rw [if_pos c, v4_d (s := a k) (h k (by omega) c)]
      · rw [aU_i]
        refine (Sm_o k a fun b hb => ?_).trans (ih a (fun i hi => h i (by omega)))
        have e : b k = a k := hb.1 k (fun z => by omega)
        show (if cd D (k + 1) b = cd D (k + 1) a then K b else va0) = _
        rw [cd, cd, if_pos c, if_pos c, e]
        by_cases d : cd D k b = cd D k a
        · rw [if_pos d, if_pos (by omega)]
        · rw [if_neg d, if_neg (by omega)]
      · intro t ht hne
        refine (Sm_o (G := fun _ => va0) k _ fun b hb => ?_).trans ?_
        · have e : b k = t := by rw [hb.1 k (fun z => by omega), aU_s]
          refine if_neg ?_
          rw [cd, cd, if_pos c, if_pos c, e]
          have := h k (by omega) c
          omega
        · have q : ∀ k a, Sm D k (fun _ => va0) a = va0 := by
            intro k
            induction k with
            | zero => intros; rfl
            | succ k ihk =>
              intro a
              rw [Sm]
              split
              · exact (v4_c fun s _ => ihk _).trans v4_0
              · exact ihk a
          exact q k _
    · rw [if_neg c]
      refine (Sm_c (fun b => ?_) k a).trans (ih a (fun i hi => h i (by omega)))
      rw [cd, cd, if_neg c, if_neg c]
/-- sums over c below N -/
def SN : Nat → (Nat → Va) → Va
  | 0, _ => va0
  | N + 1, f => vAdd (SN N f) (f N)
theorem SN_c {f g : Nat → Va} : ∀ N, (∀ i, i < N → f i = g i) → SN N f = SN N g := by
  intro N
  induction N with
  | zero => intros; rfl
  | succ N ih => intro h; rw [SN, SN, ih (fun i hi => h i (by omega)), h N (by omega)]
theorem SN_4 (f : Nat → Va) : ∀ N, SN (4 * N) f = v4 (fun s => SN N (fun c => f (4 * c + s))) := by
  intro N
  induction N with
  | zero => rfl
  | succ N ih =>
    have e : SN (4 * (N + 1)) f = vAdd (SN (4 * N) f) (v4 (fun s => f (4 * N + s))) := by
      rw [show 4 * (N + 1) = 4 * N + 1 + 1 + 1 + 1 by omega, SN, SN, SN, SN]
      unfold v4
      rw [vA_a, vA_a, vA_a, vA_a (f (4 * N + 0))]
      rfl
    rw [e, ih, ← v4_a]
    rfl
/-- a code taken apart -/
def dc (M : Nat → Bool) : Nat → Nat → As → As
  | 0, _, a => a
  | k + 1, c, a => if M k = true then dc M k (c / 4) (aU a k (c % 4)) else dc M k c a
theorem SN_dc {M : Nat → Bool} (F : As → Va) : ∀ (k : Nat) (a : As), SN (4 ^ cS M k) (fun c => F (dc M k c a)) = Sm M k F a := by
  intro k
  induction k with
  | zero => intro a; exact v0a _
  | succ k ih =>
    intro a
    rw [cS, Sm]
    by_cases c : M k = true
    · rw [if_pos c, if_pos c, Nat.pow_succ, Nat.mul_comm, SN_4]
      refine v4_c fun s hs => ?_
      rw [← ih]
      refine SN_c _ fun i _ => ?_
      rw [dc, if_pos c, show (4 * i + s) / 4 = i by omega, show (4 * i + s) % 4 = s by omega]
    · rw [if_neg c, if_neg c]
      refine (SN_c _ fun i _ => ?_).trans (ih a)
      rw [dc, if_neg c]
theorem dc_o {M : Nat → Bool} : ∀ (k c : Nat) (a : As) (i : Nat), ¬(i < k ∧ M i = true) → dc M k c a i = a i := by
  intro k
  induction k with
  | zero => intros; rfl
  | succ k ih =>
    intro c a i h
    rw [dc]
    by_cases d : M k = true
    · rw [if_pos d, ih _ _ _ (fun z => h ⟨by omega, z.2⟩), aU_o]
      intro e
      exact h ⟨by omega, by rw [e]; exact d⟩
    · rw [if_neg d]
      exact ih _ _ _ (fun z => h ⟨by omega, z.2⟩)
theorem dc_4 {M : Nat → Bool} : ∀ (k c : Nat) (a : As), (∀ i, a i < 4) → ∀ i, dc M k c a i < 4 := by
  intro k
  induction k with
  | zero => intro c a h; exact h
  | succ k ih =>
    intro c a h i
    rw [dc]
    by_cases d : M k = true
    · rw [if_pos d]
      refine ih _ _ (fun j => ?_) i
      unfold aU
      split
      · omega
      · exact h j
    · rw [if_neg d]
      exact ih _ _ h i
/-- all codes of a bag, those that go to one place -/
theorem SN_T {n : Nat} {M D E : Nat → Bool} {G : As → Va} (hM : ∀ k, k < n → M k = (D k || E k)) (hd : ∀ k, k < n → ¬(D k = true ∧ E k = true)) (hG : Dp n M G) {a : As} (h4 : ∀ i, i < n → D i = true → a i < 4) (a0 : As) : SN (4 ^ cS M n) (fun c => if cd D n (dc M n c a0) = cd D n a then G (dc M n c a0) else va0) = Sm E n G a := by
  rw [SN_dc (fun b => if cd D n b = cd D n a then G b else va0)]
  have e1 : Sm M n (fun b => if cd D n b = cd D n a then G b else va0) a0 = Sm M n (fun b => if cd D n b = cd D n a then G b else va0) a := by
    refine Dp_n (D := fun _ => false) ?_ a0 a (fun k _ h => by cases h)
    intro x y hxy
    have hxy : ∀ k, k < n → M k = true → x k = y k := fun k hk hm => hxy k hk (by show (false || M k) = true; rw [hm]; rfl)
    show (if cd D n x = cd D n a then G x else va0) = if cd D n y = cd D n a then G y else va0
    rw [hG x y hxy, cd_c n (fun i hi hdi => hxy i hi (by rw [hM i hi, hdi]; rfl))]
  rw [e1, Sm_S n _ a hM, Sm_split (S := D) (T := E) _ n a (fun i hi => hd i hi)]
  refine (Sm_c (fun b => ?_) n a).trans (Sm_delta (fun b => Sm E n G b) n a h4)
  by_cases c : cd D n b = cd D n a
  · rw [if_pos c]
    refine Sm_o n b fun x hx => if_pos ?_
    rw [← c]
    refine cd_c n fun i hi hdi => hx.1 i fun z => hd i hi ⟨hdi, z.2⟩
  · rw [if_neg c]
    refine (Sm_o (G := fun _ => va0) n b fun x hx => if_neg ?_).trans ?_
    · rw [show cd D n x = cd D n b from cd_c n fun i hi hdi => hx.1 i fun z => hd i hi ⟨hdi, z.2⟩]
      exact c
    · have := Sm_m (S := E) (fun _ => va0) (fun _ => va0) n b (fun _ _ _ _ _ => rfl)
      exact this.trans (v0m _)
def Sn : Nat → (Nat → Nat) → Nat
  | 0, _ => 0
  | k + 1, f => Sn k f + f k
theorem Sn_c {f g : Nat → Nat} : ∀ m, (∀ i, i < m → f i = g i) → Sn m f = Sn m g := by
  intro m
  induction m with
  | zero => intros; rfl
  | succ m ih => intro h; rw [Sn, Sn, ih (fun i hi => h i (by omega)), h m (by omega)]
theorem Sn_le {f g : Nat → Nat} : ∀ m, (∀ i, i < m → f i ≤ g i) → Sn m f ≤ Sn m g := by
  intro m
  induction m with
  | zero => intros; exact Nat.le_refl _
  | succ m ih => intro h; have := ih (fun i hi => h i (by omega)); have := h m (by omega); rw [Sn, Sn]; omega
theorem Sn_k {f : Nat → Nat} {k m : Nat} (h : k ≤ m) : Sn k f ≤ Sn m f := by
  induction m with
  | zero => rw [show k = 0 by omega]; exact Nat.le_refl _
  | succ m ih =>
    rcases Nat.lt_or_ge m k with c | c
    · rw [show k = m + 1 by omega]; exact Nat.le_refl _
    · have := ih c; rw [Sn]; omega
theorem Sn_a (f g : Nat → Nat) : ∀ m, Sn m (fun i => f i + g i) = Sn m f + Sn m g := by
  intro m
  induction m with
  | zero => rfl
  | succ m ih => rw [Sn, Sn, Sn, ih]; omega
/-- what hangs below a step, all told -/
def Wb (e par : Nat → Nat) : Nat → Nat → Nat
  | 0, _ => 0
  | i + 1, j => if j = i then e i + Sn i (fun j => if par j = i then Wb e par i j else 0) else Wb e par i j
def Wt (e par : Nat → Nat) (j : Nat) : Nat := Wb e par (j + 1) j
theorem Wb_W {e par : Nat → Nat} {j : Nat} : ∀ i, j < i → Wb e par i j = Wt e par j := by
  intro i
  induction i with
  | zero => intro h; omega
  | succ i ih =>
    intro h
    rcases Nat.lt_or_ge j i with c | c
    · rw [Wb, if_neg (by omega)]; exact ih c
    · rw [show i = j by omega]; rfl
theorem Wt_e {e par : Nat → Nat} (i : Nat) : Wt e par i = e i + Sn i (fun j => if par j = i then Wt e par j else 0) := by
  unfold Wt
  rw [Wb, if_pos rfl]
  congr 1
  refine Sn_c i fun j hj => ?_
  split
  · exact Wb_W i hj
  · rfl
theorem Wt_live {e par : Nat → Nat} : ∀ x, (∀ i, i < x → i < par i) → Sn x (fun j => if x ≤ par j then Wt e par j else 0) = Sn x e := by
  intro x
  induction x with
  | zero => intros; rfl
  | succ x ih =>
    intro h
    have ih := ih (fun i hi => h i (by omega))
    have s : Sn x (fun j => if x ≤ par j then Wt e par j else 0) = Sn x (fun j => if x + 1 ≤ par j then Wt e par j else 0) + Sn x (fun j => if par j = x then Wt e par j else 0) := by
      rw [← Sn_a]
      refine Sn_c x fun i hi => ?_
      rcases Nat.lt_trichotomy (par i) x with c | c | c
      · rw [if_neg (by omega), if_neg (by omega), if_neg (by omega)]
      · rw [if_pos (by omega), if_neg (by omega), if_pos (by omega)]; omega
      · rw [if_pos (by omega), if_pos (by omega), if_neg (by omega)]; omega
    rw [Sn, if_pos (show x + 1 ≤ par x from h x (by omega)), Wt_e x, Sn]
    omega
theorem Wt_ch {e par : Nat → Nat} {x k : Nat} (h : ∀ i, i < x → i < par i) (hk : k ≤ x) : Sn k (fun j => if par j = x then Wt e par j else 0) ≤ Sn x e := by
  refine Nat.le_trans (Sn_k hk) ?_
  rw [← Wt_live (e := e) x h]
  refine Sn_le x fun i hi => ?_
  by_cases c : par i = x
  · rw [if_pos c, if_pos (by omega)]; exact Nat.le_refl _
  · rw [if_neg c]; exact Nat.zero_le _
theorem Wt_tot {e par : Nat → Nat} {x : Nat} (h : ∀ i, i < x → i < par i) : Wt e par x ≤ Sn (x + 1) e := by
  have := Wt_ch (e := e) h (Nat.le_refl x)
  rw [Wt_e, Sn]
  omega
theorem Pr_B {f : Nat → Va} {e b : Nat → Nat} : ∀ k, (∀ i, i < k → vB (4 ^ e i) (b i) (f i)) → vB (4 ^ Sn k e) (Sn k b) (Pr k f) := by
  intro k
  induction k with
  | zero => intro _; exact vB_1 _
  | succ k ih =>
    intro h
    rw [Sn, Sn, Pr, Nat.pow_add]
    exact vB_mul (ih fun i hi => h i (by omega)) (h k (by omega))
theorem ch_B {n : Nat} {S : Nat → Nat → Bool} {loc : Nat → As → Va} {e bl par : Nat → Nat} {x : Nat} {a : As} (h : ∀ j, j < x → vB (4 ^ Wt e par j) (Wt bl par j) (Tt n S loc par j a)) {k : Nat} (hk : k ≤ x) : vB (4 ^ Sn k (fun j => if par j = x then Wt e par j else 0)) (Sn k (fun j => if par j = x then Wt bl par j else 0)) (Pr k (fun j => if par j = x then Tt n S loc par j a else va1)) := by
  refine Pr_B k fun i hi => ?_
  by_cases c : par i = x
  · rw [if_pos c, if_pos c, if_pos c]; exact h i (by omega)
  · rw [if_neg c, if_neg c, if_neg c]; exact vB_1 _
theorem Tt_B {n m : Nat} {S : Nat → Nat → Bool} {loc : Nat → As → Va} {e bl par : Nat → Nat} (he : ∀ i, i < m → cS (S i) n = e i) (hl : ∀ i, i < m → ∀ a, vB 1 (bl i) (loc i a)) : ∀ i, i < m → ∀ a, vB (4 ^ Wt e par i) (Wt bl par i) (Tt n S loc par i a) := by
  intro i
  induction i using Nat.strongRecOn with
  | ind i ih =>
    intro hi a
    rw [Tt_e, Wt_e, Wt_e, Nat.pow_add, ← he i hi]
    refine vB_Sm (fun b => ?_) n a
    have := vB_mul (hl i hi b) (ch_B (x := i) (a := b) (fun j hj => ih j hj (by omega) b) (Nat.le_refl i))
    rw [Nat.one_mul] at this
    exact this
/-- cells: how many, the best, how many of it, in the machine's numbers -/
def Cel (sg : Int) (c b m : Int64) (v : Va) : Prop := (v = none → c = 0) ∧ ∀ C B M, v = some (C, B, M) → c = Int64.ofInt (C : Nat) ∧ b = Int64.ofInt (sg * B) ∧ m = Int64.ofInt (M : Nat)
theorem Cel_0 (sg : Int) (b m : Int64) : Cel sg 0 b m va0 := ⟨fun _ => rfl, fun _ _ _ h => by cases h⟩
theorem Cel_mul {sg : Int} {c b m d e k : Int64} {v w : Va} (h : Cel sg c b m v) (g : Cel sg d e k w) : Cel sg (c * d) (b + e) (m * k) (vMul v w) := by
  rcases v with _ | ⟨C, B, M⟩
  · refine ⟨fun _ => ?_, fun _ _ _ z => by cases z⟩
    rw [h.1 rfl, Int64.zero_mul]
  · rcases w with _ | ⟨C', B', M'⟩
    · refine ⟨fun _ => ?_, fun _ _ _ z => by cases z⟩
      rw [g.1 rfl, Int64.mul_zero]
    · obtain ⟨h1, h2, h3⟩ := h.2 C B M rfl
      obtain ⟨g1, g2, g3⟩ := g.2 C' B' M' rfl
      refine ⟨(fun z => nomatch z), fun _ _ _ z => ?_⟩
      rw [vMul_ss] at z
      cases z
      refine ⟨?_, ?_, ?_⟩
      · rw [h1, g1, ← Int64.ofInt_mul, Int.natCast_mul]
      · rw [h2, g2, ← Int64.ofInt_add, Int.mul_add]
      · rw [h3, g3, ← Int64.ofInt_mul, Int.natCast_mul]
theorem l_ti {z : Int} (h : z.natAbs ≤ 4611686018427387904) : (Int64.ofInt z).toInt = z := Int64.toInt_ofInt_of_le (by omega) (by omega)
theorem l_lt {y z : Int} (hy : y.natAbs ≤ 4611686018427387904) (hz : z.natAbs ≤ 4611686018427387904) : Int64.ofInt y < Int64.ofInt z ↔ y < z := by
  rw [Int64.lt_iff_toInt_lt, l_ti hy, l_ti hz]
theorem l_eq {y z : Int} (hy : y.natAbs ≤ 4611686018427387904) (hz : z.natAbs ≤ 4611686018427387904) : Int64.ofInt y = Int64.ofInt z ↔ y = z := by
  rw [← Int64.toInt_inj, l_ti hy, l_ti hz]
theorem lg_0 {y z : Int} (hy : y.natAbs ≤ 4611686018427387904) (hz : z.natAbs ≤ 4611686018427387904) : lg_cmp (Int64.ofInt y) (Int64.ofInt z) = 0 ↔ y = z := by
  unfold lg_cmp
  by_cases h : z < y
  · rw [if_pos ((l_lt hz hy).mpr h)]
    exact ⟨fun z => absurd z (by decide), fun z => by omega⟩
  · rw [if_neg (fun z => h ((l_lt hz hy).mp z))]
    by_cases e : y = z
    · rw [if_pos ((l_eq hy hz).mpr e)]; exact ⟨fun _ => e, fun _ => rfl⟩
    · rw [if_neg (fun z => e ((l_eq hy hz).mp z))]
      exact ⟨fun z => absurd z (by decide), fun z => absurd z e⟩
theorem lg_le {y z : Int} (hy : y.natAbs ≤ 4611686018427387904) (hz : z.natAbs ≤ 4611686018427387904) : lg_cmp (Int64.ofInt y) (Int64.ofInt z) ≤ 0 ↔ y ≤ z := by
  unfold lg_cmp
  by_cases h : z < y
  · rw [if_pos ((l_lt hz hy).mpr h)]
    exact ⟨fun z => absurd z (by decide), fun z => by omega⟩
  · rw [if_neg (fun z => h ((l_lt hz hy).mp z))]
    refine ⟨fun _ => by omega, fun _ => ?_⟩
    split <;> decide
theorem lg_ge {y z : Int} (hy : y.natAbs ≤ 4611686018427387904) (hz : z.natAbs ≤ 4611686018427387904) : 0 ≤ lg_cmp (Int64.ofInt y) (Int64.ofInt z) ↔ z ≤ y := by
  unfold lg_cmp
  by_cases h : z < y
  · rw [if_pos ((l_lt hz hy).mpr h)]
    exact ⟨fun _ => by omega, fun _ => by decide⟩
  · rw [if_neg (fun z => h ((l_lt hz hy).mp z))]
    by_cases e : y = z
    · rw [if_pos ((l_eq hy hz).mpr e)]; exact ⟨fun _ => by omega, fun _ => by decide⟩
    · rw [if_neg (fun z => e ((l_eq hy hz).mp z))]
      exact ⟨fun z => absurd z (by decide), fun z => by omega⟩
theorem l_0 : (0 : Int64) = Int64.ofInt 0 := rfl
/-- where a1 says which way is better -/
def Sg (a1 : Int32) (sg : Int) : Prop := (a1 = 0 ∧ sg = -1) ∨ (a1 ≠ 0 ∧ sg = 1)
theorem put_n {a1 : Int32} {sg : Int} (hs : Sg a1 sg) {i : Int32} (hi : okI i 14336) {x6 x8 x10 : Int64} {tc tb tm : Nat → Int64} {v w : Va} {N β : Nat} (hN : N ≤ 4611686018427387904) (hβ : β ≤ 4611686018427387904) (hv : vB N β v) (hw : vB N β w) (w0 : w ≠ none) (C : Cel sg (tc i.toNatClampNeg) (tb i.toNatClampNeg) (tm i.toNatClampNeg) v) (D : Cel sg x6 x8 x10 w) : ∃ tc' tb' tm', f_X9_put_ i x6 x8 x10 a1 tc tb tm = some (tc', tb', tm') ∧ Cel sg (tc' i.toNatClampNeg) (tb' i.toNatClampNeg) (tm' i.toNatClampNeg) (vAdd v w) ∧ ∀ j, j ≠ i.toNatClampNeg → tc' j = tc j ∧ tb' j = tb j ∧ tm' j = tm j := by
  have us : ∀ (f : Nat → Int64) (k : Nat) (x : Int64), vp_updL f k x k = x := fun f k x => if_pos rfl
  have uo : ∀ (f : Nat → Int64) (k : Nat) (x : Int64) (j : Nat), j ≠ k → vp_updL f k x j = f j := fun f k x j h => if_neg h
  have sj : ∀ {β : Type} (f : Nat → Int64) (x : Int64) (k : (Nat → Int64) → Option β), stJ f 14336 i x k = k (vp_updL f i.toNatClampNeg x) := fun f x k => if_pos hi
  rcases w with _ | ⟨c', b', m'⟩
  · exact absurd rfl w0
  obtain ⟨d1, d2, d3⟩ := D.2 _ _ _ rfl
  obtain ⟨w1, w2, w3, w4, w5⟩ := hw _ _ _ rfl
  unfold f_X9_put_
  rw [ld_ok _ hi]
  rcases v with _ | ⟨c, b, m⟩
  · have e0 := C.1 rfl
    rw [e0, if_pos (show lg_cmp 0 0 = 0 by decide)]
    unfold J_X9_put__48 J_X9_put__97
    rw [bnd_s, if_neg n10, sj, sj, ld_ok _ hi, sj]
    refine ⟨_, _, _, rfl, ⟨(fun z => nomatch z), fun C' B' M' z => ?_⟩, fun j hj => ⟨uo _ _ _ _ hj, uo _ _ _ _ hj, uo _ _ _ _ hj⟩⟩
    cases z
    rw [us, us, us, e0, Int64.zero_add]
    exact ⟨d1, d2, d3⟩
  · obtain ⟨c1, c2, c3⟩ := C.2 _ _ _ rfl
    obtain ⟨v1, v2, v3, v4, v5⟩ := hv _ _ _ rfl
    have q1 : ((c : Int)).natAbs ≤ 4611686018427387904 := by omega
    have hsb : (sg * b).natAbs ≤ 4611686018427387904 ∧ (sg * b').natAbs ≤ 4611686018427387904 := by
      rcases hs with ⟨_, e⟩ | ⟨_, e⟩ <;> subst e <;> constructor <;> omega
    rw [c1, l_0, if_neg (fun z => by have := (lg_0 q1 (by decide)).mp z; omega)]
    have step : (if a1 = 0 then ldA tb 14336 i fun v10 => if 0 ≤ lg_cmp x8 v10 then J_X9_put__48 i x6 x8 x10 a1 0 tc tb tm else J_X9_put__48 i x6 x8 x10 a1 1 tc tb tm else ldA tb 14336 i fun v11 => if lg_cmp x8 v11 ≤ 0 then J_X9_put__48 i x6 x8 x10 a1 0 tc tb tm else J_X9_put__48 i x6 x8 x10 a1 1 tc tb tm) = if b < b' then J_X9_put__48 i x6 x8 x10 a1 1 tc tb tm else J_X9_put__48 i x6 x8 x10 a1 0 tc tb tm := by
      rw [ld_ok _ hi, ld_ok _ hi, c2, d2]
      rcases hs with ⟨e1, e⟩ | ⟨e1, e⟩
      · rw [if_pos e1]
        by_cases h : b < b'
        · rw [if_pos h, if_neg (fun z => by have := (lg_ge hsb.2 hsb.1).mp z; subst e; omega)]
        · rw [if_neg h, if_pos ((lg_ge hsb.2 hsb.1).mpr (by subst e; omega))]
      · rw [if_neg e1]
        by_cases h : b < b'
        · rw [if_pos h, if_neg (fun z => by have := (lg_le hsb.2 hsb.1).mp z; subst e; omega)]
        · rw [if_neg h, if_pos ((lg_le hsb.2 hsb.1).mpr (by subst e; omega))]
    rw [step, vAdd_ss]
    by_cases h : b < b'
    · rw [if_pos h, if_pos h]
      unfold J_X9_put__48 J_X9_put__97
      rw [bnd_s, if_neg n10, sj, sj, ld_ok _ hi, sj]
      refine ⟨_, _, _, rfl, ⟨(fun z => nomatch z), fun C' B' M' z => ?_⟩, fun j hj => ⟨uo _ _ _ _ hj, uo _ _ _ _ hj, uo _ _ _ _ hj⟩⟩
      cases z
      rw [us, us, us, c1, d1, ← Int64.ofInt_add, Int.natCast_add]
      exact ⟨rfl, d2, d3⟩
    · rw [if_neg h, if_neg h]
      unfold J_X9_put__48 J_X9_put__97
      rw [bnd_s, if_pos rfl, ld_ok _ hi, c2, d2]
      by_cases g : b' < b
      · rw [if_pos g, if_neg (fun z => by have := (lg_0 hsb.2 hsb.1).mp z; rcases hs with ⟨_, e⟩ | ⟨_, e⟩ <;> subst e <;> omega), ld_ok _ hi, sj]
        refine ⟨_, _, _, rfl, ⟨(fun z => nomatch z), fun C' B' M' z => ?_⟩, fun j hj => ⟨uo _ _ _ _ hj, rfl, rfl⟩⟩
        cases z
        rw [us, c1, d1, ← Int64.ofInt_add, Int.natCast_add]
        exact ⟨rfl, c2, c3⟩
      · rw [if_neg g, if_pos ((lg_0 hsb.2 hsb.1).mpr (by rw [show b' = b by omega])), ld_ok _ hi, sj, ld_ok _ hi, sj]
        refine ⟨_, _, _, rfl, ⟨(fun z => nomatch z), fun C' B' M' z => ?_⟩, fun j hj => ⟨uo _ _ _ _ hj, rfl, uo _ _ _ _ hj⟩⟩
        cases z
        rw [us, us, c1, d1, c3, d3, ← Int64.ofInt_add, ← Int64.ofInt_add, Int.natCast_add, Int.natCast_add]
        exact ⟨rfl, c2, rfl⟩
theorem nx_mul (a b : Nat) : nI a * nI b = nI (a * b) := by
  apply Int32.toBitVec_inj.mp
  show BitVec.ofNat 32 a * BitVec.ofNat 32 b = BitVec.ofNat 32 (a * b)
  apply BitVec.eq_of_toNat_eq
  rw [BitVec.toNat_mul, BitVec.toNat_ofNat, BitVec.toNat_ofNat, BitVec.toNat_ofNat, ← Nat.mul_mod]
theorem nx_4 (a b : Nat) : (4 : Int32) * nI a + nI b = nI (4 * a + b) := by rw [show (4 : Int32) = nI 4 from rfl, nx_mul, nI_add]
theorem nx_14 (a b : Nat) : (14 : Int32) * nI a + nI b = nI (14 * a + b) := by rw [show (14 : Int32) = nI 14 from rfl, nx_mul, nI_add]
theorem nx_1024 (a b : Nat) : (1024 : Int32) * nI a + nI b = nI (1024 * a + b) := by rw [show (1024 : Int32) = nI 1024 from rfl, nx_mul, nI_add]
theorem nx_d4 : ∀ c, c < 1024 → nI c / (4 : Int32) = nI (c / 4) := by decide +kernel
theorem nx_r4 : ∀ c, c < 1024 → nI c - nI c / (4 : Int32) * (4 : Int32) = nI (c % 4) := by decide +kernel
theorem nx_dec (j : Nat) : nI (j + 1) + (-1 : Int32) = nI j := by
  rw [← nI_add, Int32.add_assoc, show nI 1 + (-1 : Int32) = 0 from rfl, Int32.add_zero]
theorem nx_lt0 : nI 0 + (-1 : Int32) < 0 := by decide
theorem nx_nlt0 {j : Nat} (h : j < 14) : ¬nI j < 0 := by
  intro z
  have := Int32.lt_iff_toInt_lt.mp z
  rw [nI_toInt (by omega)] at this
  have l0 : (0 : Int32).toInt = 0 := rfl
  omega
abbrev tbF (m : Nat) : Nat → Bool := fun k => m.testBit k
theorem l_code {n D : Nat} (hn : n ≤ 14) (hD : D < 2 ^ n) {st : Nat → Int32} {a : As} (h : ∀ k, k < n → D.testBit k = true → st k = nI (a k)) : ∀ (f j : Nat), j ≤ n → n - j < f → L_X9_code_4 (nI D) (nI n) st f (nI (cd (tbF D) j a)) (nI j) = some (nI (cd (tbF D) n a)) := by
  have hp := p2n hn
  intro f
  induction f with
  | zero => intro j h1 h2; omega
  | succ f ih =>
    intro j hj hf
    rw [L_X9_code_4]
    rcases Nat.lt_or_ge j n with c | c
    · rw [if_neg (nI_ge c (by omega))]
      have ih := ih (j + 1) (by omega) (by omega)
      by_cases b : D.testBit j = true
      · rw [cd, if_pos b] at ih
        rw [if_pos ((nx_has1 (by omega) (by omega)).mpr b), ld_ok _ (in14 (by omega)), cl14 (by omega), h j c b, bnd_s, bnd_s, nx_4, nI_1]
        exact ih
      · rw [cd, if_neg b] at ih
        rw [if_neg (fun z => b ((nx_has1 (by omega) (by omega)).mp z)), bnd_s, nI_1]
        exact ih
    · rw [if_pos (nI_le c (by omega)), show j = n by omega]
theorem code_n {n D : Nat} (hn : n ≤ 14) (hD : D < 2 ^ n) {st : Nat → Int32} {a : As} (h : ∀ k, k < n → D.testBit k = true → st k = nI (a k)) : f_X9_code (nI D) (nI n) st = some (nI (cd (tbF D) n a)) := by
  unfold f_X9_code
  rw [bnd_s, bnd_s]
  exact l_code hn hD h NN 0 (Nat.zero_le _) (by show n - 0 < 32768; omega)
theorem dc_ge {M : Nat → Bool} (k c : Nat) (a : As) {i : Nat} (h : k ≤ i) : dc M k c a i = a i := dc_o k c a i (fun z => by omega)
/-- edges inside a bag may be -/
def EdO (n : Nat) (B : Nat → Nat) (M : Nat) (bar : Nat → Nat → Bool) (a : As) : Prop := ∀ k j, k < n → j < k → M.testBit k = true → M.testBit j = true → (B k).testBit j = true → bar (a k) (a j) = false
theorem isK_n {n k : Nat} (hn : n ≤ 14) (hk : k < n) : f_X9_isKnot (nI k) (nI n) = some 1 := by
  unfold f_X9_isKnot
  rw [if_neg (nx_nlt0 (by omega)), if_neg (nI_ge hk (by omega))]
theorem edge_n {n : Nat} {B : Nat → Nat} {near0 : Nat → Int32} (N : NetN n B near0) {k j : Nat} (hk : k < n) (hj : j < n) : f_X9_isEdge (nI k) (nI j) (nI n) near0 = some (if (B k).testBit j = true then 1 else 0) := by
  have hn := N.1
  have hp := p2n hn
  have := N.2.2.1 k
  unfold f_X9_isEdge
  rw [cal_e (isK_n hn hk), if_neg n10, cal_e (isK_n hn hj), if_neg n10, ld_ok _ (in14 (by omega)), cl14 (by omega), N.2.1 k]
  by_cases b : (B k).testBit j = true
  · rw [if_pos ((nx_has1 (by omega) (by omega)).mpr b), if_pos b]
  · rw [if_neg (fun z => b ((nx_has1 (by omega) (by omega)).mp z)), if_neg b]
abbrev barF (mn : Nat → Int32) : Nat → Nat → Bool := fun s t => decide (¬mn (4 * s + t) = 0)
theorem in16 {k : Nat} (h : k < 16) : okI (nI k) 16 := nI_in (c := k) (N := 16) h (by decide)
theorem l_t103 {n : Nat} {B : Nat → Nat} {near0 : Nat → Int32} (N : NetN n B near0) (a2 tq : Int32) (fo mn fx : Nat → Int32) {x M : Nat} (hx : x < 14) {bag : Nat → Int32} (hM : bag x = nI M) (hM2 : M < 2 ^ n) {st : Nat → Int32} {a : As} (hst : ∀ k, k < n → M.testBit k = true → st k = nI (a k) ∧ a k < 4) {k : Nat} (hk : k < n) (kk : Int32 → Int32 → (Nat → Int32) → Option (Int32 × (Nat → Int32))) : ∀ (f j g : Nat), j ≤ k → k - j < f → g ≤ 1 → ∃ g', g' ≤ 1 ∧ (g' = 1 ↔ g = 1 ∧ ∀ i, j ≤ i → i < k → M.testBit k = true → M.testBit i = true → (B k).testBit i = true → barF mn (a k) (a i) = false) ∧ L_X9_take_103 (nI x) a2 (nI n) tq near0 bag fo mn fx kk f (nI g) (nI k) (nI j) st = kk (nI g') (nI (k + 1)) st := by
  have hn := N.1
  have hp := p2n hn
  intro f
  induction f with
  | zero => intro j g h1 h2; omega
  | succ f ih =>
    intro j g hj hf hg
    rw [L_X9_take_103]
    rcases Nat.lt_or_ge j k with c | c
    · rw [if_neg (nI_ge c (by omega))]
      rcases (by omega : g = 0 ∨ g = 1) with e | e
      · subst e
        refine ⟨0, by omega, ⟨fun z => by omega, fun z => by omega⟩, ?_⟩
        rw [if_pos (show nI 0 = 0 from rfl), bnd_s, nI_1]
      · subst e
        rw [if_neg (show ¬nI 1 = 0 by decide), ld_ok _ (in14 hx), cl14 hx, hM]
        by_cases b : M.testBit k = true
        · rw [if_pos ((nx_has1 (by omega) (by omega)).mpr b), ld_ok _ (in14 hx), cl14 hx, hM]
          by_cases d : M.testBit j = true
          · rw [if_pos ((nx_has1 (by omega) (by omega)).mpr d), cal_e (edge_n N hk (by omega))]
            by_cases e : (B k).testBit j = true
            · rw [if_pos e, if_neg n10, ld_ok _ (in14 (by omega)), ld_ok _ (in14 (by omega)), cl14 (by omega), cl14 (by omega), (hst k hk b).1, (hst j (by omega) d).1, nx_4]
              have h4 := (hst k hk b).2
              have h5 := (hst j (by omega) d).2
              rw [ld_ok _ (in16 (by omega)), nI_clamp (by omega)]
              by_cases z : mn (4 * a k + a j) = 0
              · obtain ⟨g', g1, g2, g3⟩ := ih (j + 1) 1 (by omega) (by omega) (by omega)
                refine ⟨g', g1, g2.trans ⟨fun w => ⟨rfl, fun i hi hk2 m1 m2 m3 => ?_⟩, fun w => ⟨rfl, fun i hi => w.2 i (by omega)⟩⟩, ?_⟩
                · by_cases q : i = j
                  · subst q; exact decide_eq_false (fun y => y z)
                  · exact w.2 i (by omega) hk2 m1 m2 m3
                · rw [if_pos z, bnd_s, bnd_s, nI_1]; exact g3
              · obtain ⟨g', g1, g2, g3⟩ := ih (j + 1) 0 (by omega) (by omega) (by omega)
                refine ⟨g', g1, g2.trans ⟨fun w => absurd w.1 (by omega), fun w => ?_⟩, ?_⟩
                · have := w.2 j (Nat.le_refl _) c b d e
                  exact absurd z (of_decide_eq_false this)
                · rw [if_neg z, bnd_s, bnd_s, nI_1]; exact g3
            · obtain ⟨g', g1, g2, g3⟩ := ih (j + 1) 1 (by omega) (by omega) (by omega)
              refine ⟨g', g1, g2.trans ⟨fun w => ⟨rfl, fun i hi hk2 m1 m2 m3 => ?_⟩, fun w => ⟨rfl, fun i hi => w.2 i (by omega)⟩⟩, ?_⟩
              · by_cases q : i = j
                · subst q; exact absurd m3 e
                · exact w.2 i (by omega) hk2 m1 m2 m3
              · rw [if_neg e, if_pos rfl, bnd_s, nI_1]; exact g3
          · obtain ⟨g', g1, g2, g3⟩ := ih (j + 1) 1 (by omega) (by omega) (by omega)
            refine ⟨g', g1, g2.trans ⟨fun w => ⟨rfl, fun i hi hk2 m1 m2 m3 => ?_⟩, fun w => ⟨rfl, fun i hi => w.2 i (by omega)⟩⟩, ?_⟩
            · by_cases q : i = j
              · subst q; exact absurd m2 d
              · exact w.2 i (by omega) hk2 m1 m2 m3
            · rw [if_neg (fun z => d ((nx_has1 (by omega) (by omega)).mp z)), bnd_s, nI_1]; exact g3
        · obtain ⟨g', g1, g2, g3⟩ := ih (j + 1) 1 (by omega) (by omega) (by omega)
          refine ⟨g', g1, g2.trans ⟨fun w => ⟨rfl, fun i hi hk2 m1 m2 m3 => absurd m1 b⟩, fun w => ⟨rfl, fun i hi => w.2 i (by omega)⟩⟩, ?_⟩
          rw [if_neg (fun z => b ((nx_has1 (by omega) (by omega)).mp z)), bnd_s, nI_1]; exact g3
    · refine ⟨g, hg, ⟨fun w => ⟨w, fun i h1 h2 => by omega⟩, fun w => w.1⟩, ?_⟩
      rw [if_pos (nI_le c (by omega)), bnd_s, nI_1]
theorem l_t86 {n : Nat} {B : Nat → Nat} {near0 : Nat → Int32} (N : NetN n B near0) (a2 tq : Int32) (fo mn fx : Nat → Int32) {x M : Nat} (hx : x < 14) {bag : Nat → Int32} (hM : bag x = nI M) (hM2 : M < 2 ^ n) {st : Nat → Int32} {a : As} (hst : ∀ k, k < n → M.testBit k = true → st k = nI (a k) ∧ a k < 4) : ∀ (f k g : Nat), k ≤ n → n - k < f → g ≤ 1 → ∃ g', g' ≤ 1 ∧ (g' = 1 ↔ g = 1 ∧ ∀ i j, k ≤ i → i < n → j < i → M.testBit i = true → M.testBit j = true → (B i).testBit j = true → barF mn (a i) (a j) = false) ∧ L_X9_take_86 (nI x) a2 (nI n) tq near0 bag fo mn fx f (nI g) (nI k) st = some (nI g', st) := by
  have hn := N.1
  intro f
  induction f with
  | zero => intro j g h1 h2; omega
  | succ f ih =>
    intro k g hk hf hg
    have c01 : nI g = 0 ∨ nI g = 1 := by rcases (by omega : g = 0 ∨ g = 1) with e | e <;> subst e <;> decide
    rw [L_X9_take_86]
    rcases Nat.lt_or_ge k n with c | c
    · rw [if_neg (nI_ge c (by omega))]
      rcases (by omega : g = 0 ∨ g = 1) with e | e
      · subst e
        refine ⟨0, by omega, ⟨fun z => by omega, fun z => by omega⟩, ?_⟩
        rw [if_pos (show nI 0 = 0 from rfl), chk_ok c01]
      · subst e
        rw [if_neg (show ¬nI 1 = 0 by decide), bnd_s]
        obtain ⟨g', g1, g2, g3⟩ := l_t103 N a2 tq fo mn fx hx hM hM2 hst c (fun y0 y1 y2 => L_X9_take_86 (nI x) a2 (nI n) tq near0 bag fo mn fx f y0 y1 y2) NN 0 1 (Nat.zero_le _) (by show k - 0 < 32768; omega) (by omega)
        obtain ⟨g'', h1, h2, h3⟩ := ih (k + 1) g' (by omega) (by omega) g1
        refine ⟨g'', h1, h2.trans ⟨fun w => ⟨rfl, fun i j hi hin hj m1 m2 m3 => ?_⟩, fun w => ⟨g2.mpr ⟨rfl, fun i _ hi m1 m2 m3 => w.2 k i (Nat.le_refl _) c hi m1 m2 m3⟩, fun i j hi => w.2 i j (by omega)⟩⟩, g3.trans h3⟩
        by_cases q : i = k
        · subst q; exact (g2.mp w.1).2 j (Nat.zero_le _) hj m1 m2 m3
        · exact w.2 i j (by omega) hin hj m1 m2 m3
    · refine ⟨g, hg, ⟨fun w => ⟨w, fun i j h1 h2 => by omega⟩, fun w => w.1⟩, ?_⟩
      rw [if_pos (nI_le c (by omega)), chk_ok c01]
/-- what may be, knot by knot -/
def MayB (n : Nat) (tq : Int32) (fo fx : Nat → Int32) (op : Nat → Nat → Bool) : Prop := ∀ k s, k < n → s < 4 → f_X9_mayBe (nI k) (nI s) tq fo fx = some (if op k s = true then 1 else 0)
theorem l_t13 {n : Nat} {B : Nat → Nat} {near0 : Nat → Int32} (N : NetN n B near0) (a2 tq : Int32) (fo mn fx : Nat → Int32) {op : Nat → Nat → Bool} (hop : MayB n tq fo fx op) {x M : Nat} (hx : x < 14) {bag : Nat → Int32} (hM : bag x = nI M) (hM2 : M < 2 ^ n) : ∀ (f j c g : Nat) (st : Nat → Int32) (a : As), j ≤ n → j < f → c < 1024 → g ≤ 1 → (∀ k, j ≤ k → k < n → M.testBit k = true → st k = nI (a k)) → ∃ g' st', g' ≤ 1 ∧ (g' = 1 ↔ g = 1 ∧ ∀ k, k < j → M.testBit k = true → op k (dc (tbF M) j c a k) = true) ∧ (∀ k, k < n → M.testBit k = true → st' k = nI (dc (tbF M) j c a k)) ∧ L_X9_take_13 (nI x) a2 (nI n) tq near0 bag fo mn fx f (nI c) (nI g) (nI j + (-1)) st = L_X9_take_86 (nI x) a2 (nI n) tq near0 bag fo mn fx NN (nI g') 0 st' := by
  have hn := N.1
  have hp := p2n hn
  intro f
  induction f with
  | zero => intro j c g st a h1 h2; omega
  | succ f ih =>
    intro j c g st a hj hf hc hg hst
    rw [L_X9_take_13]
    rcases j with _ | j
    · refine ⟨g, st, hg, ⟨fun w => ⟨w, fun k hk => by omega⟩, fun w => w.1⟩, fun k hk hm => hst k (Nat.zero_le _) hk hm, ?_⟩
      rw [if_pos nx_lt0, bnd_s]
    · rw [nx_dec, if_neg (nx_nlt0 (by omega)), ld_ok _ (in14 hx), cl14 hx, hM]
      by_cases b : M.testBit j = true
      · rw [if_neg (fun z => by have := (nx_has0 (by omega) (by omega)).mp z; rw [b] at this; cases this), nx_r4 c hc, nx_d4 c hc]
        have stj : ∀ {β : Type} (k : (Nat → Int32) → Option β), stI st 14 (nI j) (nI (c % 4)) k = k (upd st j (nI (c % 4))) := fun k => by
          unfold stI
          rw [if_pos (in14 (by omega)), cl14 (by omega)]
        have uj : upd st j (nI (c % 4)) j = nI (c % 4) := if_pos rfl
        rw [stj, bnd_s]
        have hst2 : ∀ k, j ≤ k → k < n → M.testBit k = true → upd st j (nI (c % 4)) k = nI (aU a j (c % 4) k) := by
          intro k h1 h2 h3
          by_cases e : k = j
          · subst e; rw [uj, aU_s]
          · rw [aU_o _ _ e, show upd st j (nI (c % 4)) k = st k from if_neg e]; exact hst k (by omega) h2 h3
        have edc : dc (tbF M) (j + 1) c a = dc (tbF M) j (c / 4) (aU a j (c % 4)) := by rw [dc, if_pos b]
        have ej : dc (tbF M) j (c / 4) (aU a j (c % 4)) j = c % 4 := by rw [dc_ge _ _ _ (Nat.le_refl j), aU_s]
        rw [edc]
        rcases (by omega : g = 0 ∨ g = 1) with e | e
        · subst e
          obtain ⟨g', st', h1, h2, h3, h4⟩ := ih j (c / 4) 0 (upd st j (nI (c % 4))) (aU a j (c % 4)) (by omega) (by omega) (by omega) (by omega) hst2
          refine ⟨g', st', h1, ⟨fun z => absurd (h2.mp z).1 (by omega), fun z => absurd z.1 (by omega)⟩, h3, ?_⟩
          rw [if_pos (show nI 0 = 0 from rfl), bnd_s, bnd_s]
          exact h4
        · subst e
          rw [if_neg (show ¬nI 1 = 0 by decide), ld_ok _ (in14 (by omega)), cl14 (by omega), uj, cal_e (hop j (c % 4) (by omega) (by omega))]
          by_cases o : op j (c % 4) = true
          · obtain ⟨g', st', h1, h2, h3, h4⟩ := ih j (c / 4) 1 (upd st j (nI (c % 4))) (aU a j (c % 4)) (by omega) (by omega) (by omega) (by omega) hst2
            refine ⟨g', st', h1, h2.trans ⟨fun w => ⟨rfl, fun k hk hm => ?_⟩, fun w => ⟨rfl, fun k hk hm => w.2 k (by omega) hm⟩⟩, h3, ?_⟩
            · by_cases q : k = j
              · subst q; rw [ej]; exact o
              · exact w.2 k (by omega) hm
            · rw [if_pos o, if_neg n10, bnd_s, bnd_s]; exact h4
          · obtain ⟨g', st', h1, h2, h3, h4⟩ := ih j (c / 4) 0 (upd st j (nI (c % 4))) (aU a j (c % 4)) (by omega) (by omega) (by omega) (by omega) hst2
            refine ⟨g', st', h1, ⟨fun z => absurd (h2.mp z).1 (by omega), fun z => ?_⟩, h3, ?_⟩
            · have := z.2 j (by omega) b
              rw [ej] at this
              exact absurd this o
            · rw [if_neg o, if_pos rfl, bnd_s, bnd_s]; exact h4
      · have edc : dc (tbF M) (j + 1) c a = dc (tbF M) j c a := by rw [dc, if_neg b]
        obtain ⟨g', st', h1, h2, h3, h4⟩ := ih j c g st a (by omega) (by omega) hc hg (fun k h1 h2 h3 => by
          by_cases e : k = j
          · subst e; exact absurd h3 b
          · exact hst k (by omega) h2 h3)
        rw [edc]
        refine ⟨g', st', h1, h2.trans ⟨fun w => ⟨w.1, fun k hk hm => ?_⟩, fun w => ⟨w.1, fun k hk hm => w.2 k (by omega) hm⟩⟩, h3, ?_⟩
        · by_cases q : k = j
          · subst q; exact absurd hm b
          · exact w.2 k (by omega) hm
        · rw [if_pos ((nx_has0 (by omega) (by omega)).mpr (bf b)), bnd_s]; exact h4
/-- a bag's states may be -/
def Vd (n : Nat) (B : Nat → Nat) (op : Nat → Nat → Bool) (bar : Nat → Nat → Bool) (M : Nat) (a : As) : Prop := (∀ k, k < n → M.testBit k = true → op k (a k) = true) ∧ EdO n B M bar a
theorem take_n9 {n : Nat} {B : Nat → Nat} {near0 : Nat → Int32} (N : NetN n B near0) (tq : Int32) (fo mn fx : Nat → Int32) {op : Nat → Nat → Bool} (hop : MayB n tq fo fx op) {x M : Nat} (hx : x < 14) {bag : Nat → Int32} (hM : bag x = nI M) (hM2 : M < 2 ^ n) (c : Nat) (hc : c < 1024) (st : Nat → Int32) : ∃ g st', (g = 0 ∨ g = 1) ∧ (g = 1 ↔ Vd n B op (barF mn) M (dc (tbF M) n c (fun _ => 0))) ∧ (∀ k, k < n → M.testBit k = true → st' k = nI (dc (tbF M) n c (fun _ => 0) k)) ∧ f_X9_take (nI x) (nI c) (nI n) tq near0 bag fo mn fx st = some (nI g, st') := by
  obtain ⟨g', st', h1, h2, h3, h4⟩ := l_t13 N (nI c) tq fo mn fx hop hx hM hM2 NN n c 1 st (fun _ => 0) (Nat.le_refl _) (by have := N.1; show n < 32768; omega) hc (by omega) (fun k h1 h2 => by omega)
  obtain ⟨g'', k1, k2, k3⟩ := l_t86 N (nI c) tq fo mn fx hx hM hM2 (st := st') (a := dc (tbF M) n c (fun _ => 0)) (fun k hk hm => ⟨h3 k hk hm, dc_4 n c _ (fun _ => by omega) k⟩) NN 0 g' (Nat.zero_le _) (by have := N.1; show n - 0 < 32768; omega) h1
  refine ⟨g'', st', by omega, k2.trans ⟨fun w => ⟨fun k hk hm => (h2.mp w.1).2 k hk hm, fun i j hi hj m1 m2 m3 => w.2 i j (Nat.zero_le _) hi hj m1 m2 m3⟩, fun w => ⟨h2.mpr ⟨rfl, w.1⟩, fun i j _ hi hj m1 m2 m3 => w.2 i j hi hj m1 m2 m3⟩⟩, h3, ?_⟩
  unfold f_X9_take
  rw [bnd_s, bnd_s, bnd_s, Int32.sub_eq_add_neg]
  exact h4.trans k3
def si : Nat → (Nat → Int) → Int
  | 0, _ => 0
  | k + 1, f => si k f + f k
theorem si_c {f g : Nat → Int} : ∀ m, (∀ i, i < m → f i = g i) → si m f = si m g := by
  intro m
  induction m with
  | zero => intros; rfl
  | succ m ih => intro h; rw [si, si, ih (fun i hi => h i (by omega)), h m (by omega)]
def subB (S M : Nat) : Bool := decide (M &&& S = S)
def fsB (Ms : Nat → Nat) (x S : Nat) : Bool := subB S (Ms x) && (List.range x).all (fun i => !subB S (Ms i))
theorem subB_t {S M : Nat} : subB S M = true ↔ ∀ l, S.testBit l = true → M.testBit l = true := by
  unfold subB
  rw [decide_eq_true_eq]
  constructor
  · intro h l hl
    have : (M &&& S).testBit l = true := by rw [h]; exact hl
    rw [Nat.testBit_and, Bool.and_eq_true] at this
    exact this.1
  · intro h
    apply Nat.eq_of_testBit_eq
    intro i
    rw [Nat.testBit_and]
    by_cases c : S.testBit i = true
    · rw [c, h i c]; rfl
    · rw [bf c, Bool.and_false]
theorem fsB_t {Ms : Nat → Nat} {x S : Nat} : fsB Ms x S = true ↔ subB S (Ms x) = true ∧ ∀ i, i < x → subB S (Ms i) = false := by
  unfold fsB
  rw [Bool.and_eq_true, List.all_eq_true]
  constructor
  · rintro ⟨h1, h2⟩
    refine ⟨h1, fun i hi => ?_⟩
    have := h2 i (List.mem_range.mpr hi)
    rw [Bool.not_eq_true'] at this
    exact this
  · rintro ⟨h1, h2⟩
    refine ⟨h1, fun i hi => ?_⟩
    rw [h2 i (List.mem_range.mp hi)]; rfl
theorem sub_m {M S : Nat} (hM : M < 16384) (hS : S < 16384) : (nI M &&& nI S) = nI S ↔ subB S M = true := by
  unfold subB
  rw [decide_eq_true_eq, nx_and]
  constructor
  · intro h
    have h1 : M &&& S < 16384 := Nat.lt_of_le_of_lt Nat.and_le_left hM
    have := congrArg Int32.toInt h
    rw [nI_toInt (by omega), nI_toInt (by omega)] at this
    omega
  · intro h; rw [h]
theorem l_first {b x S : Nat} (hx : x < 14) (hS : S < 16384) {bag : Nat → Int32} {Ms : Nat → Nat} (hM : ∀ i, i ≤ x → bag i = nI (Ms i) ∧ Ms i < 16384) : ∀ (f j : Nat), j ≤ x → x - j < f → (∀ i, i < j → subB S (Ms i) = false) → L_X9_isFirst_2 (nI x) (nI S) bag f (nI j) = some (if fsB Ms x S = true then 1 else 0) := by
  intro f
  induction f with
  | zero => intro j h1 h2; omega
  | succ f ih =>
    intro j hj hf h
    rw [L_X9_isFirst_2]
    rcases Nat.lt_or_ge j x with c | c
    · rw [if_neg (nI_ge c (by omega)), ld_ok _ (in14 (by omega)), cl14 (by omega), (hM j (by omega)).1]
      by_cases d : subB S (Ms j) = true
      · rw [if_pos ((sub_m (hM j (by omega)).2 hS).mpr d), if_neg]
        intro z
        have := (fsB_t.mp z).2 j c
        rw [d] at this; cases this
      · rw [if_neg (fun z => d ((sub_m (hM j (by omega)).2 hS).mp z)), bnd_s, nI_1]
        refine ih (j + 1) (by omega) (by omega) fun i hi => ?_
        by_cases e : i = j
        · subst e; exact bf d
        · exact h i (by omega)
    · rw [if_pos (nI_le c (by omega)), ld_ok _ (in14 (by omega)), cl14 (by omega), (hM x (by omega)).1]
      have hxj : j = x := by omega
      by_cases d : subB S (Ms x) = true
      · rw [if_pos ((sub_m (hM x (by omega)).2 hS).mpr d), if_pos]
        exact fsB_t.mpr ⟨d, fun i hi => h i (by omega)⟩
      · rw [if_neg (fun z => d ((sub_m (hM x (by omega)).2 hS).mp z)), if_neg]
        intro z
        exact d (fsB_t.mp z).1
theorem first_n {x S : Nat} (hx : x < 14) (hS : S < 16384) {bag : Nat → Int32} {Ms : Nat → Nat} (hM : ∀ i, i ≤ x → bag i = nI (Ms i) ∧ Ms i < 16384) : f_X9_isFirst (nI x) (nI S) bag = some (if fsB Ms x S = true then 1 else 0) := by
  unfold f_X9_isFirst
  rw [bnd_s]
  exact l_first (b := 0) hx hS hM NN 0 (Nat.zero_le _) (by show x - 0 < 32768; omega) (fun i hi => by omega)
/-- weights -/
def wK (wt fa : Nat → Int32) (k s : Nat) : Int := (wt k).toInt * (fa s).toInt
def wE (ed pf : Nat → Int32) (k j s t : Nat) : Int := (ed (14 * k + j)).toInt * (pf (4 * s + t)).toInt
def owE (B Ms : Nat → Nat) (ed pf : Nat → Int32) (x : Nat) (a : As) (k j : Nat) : Int := if ((B k).testBit j && fsB Ms x (2 ^ k ||| 2 ^ j)) = true then wE ed pf k j (a k) (a j) else 0
def owK (Ms : Nat → Nat) (wt fa : Nat → Int32) (x : Nat) (a : As) (k : Nat) : Int := if fsB Ms x (2 ^ k) = true then wK wt fa k (a k) else 0
def ow (n : Nat) (B Ms : Nat → Nat) (wt ed fa pf : Nat → Int32) (x : Nat) (a : As) : Int := si n (fun k => owK Ms wt fa x a k + si k (owE B Ms ed pf x a k))
theorem i64 (x : Int32) : x.toInt64 = Int64.ofInt x.toInt := by rw [← Int32.toInt_toInt64, Int64.ofInt_toInt]
theorem in196 {k : Nat} (h : k < 196) : okI (nI k) 196 := nI_in (c := k) (N := 196) h (by decide)
theorem in4 {k : Nat} (h : k < 4) : okI (nI k) 4 := nI_in (c := k) (N := 4) h (by decide)
theorem l_o54 {n : Nat} {B : Nat → Nat} {near0 : Nat → Int32} (N : NetN n B near0) (wt ed fa pf : Nat → Int32) {x : Nat} (hx : x < 14) {bag : Nat → Int32} {Ms : Nat → Nat} (hM : ∀ i, i ≤ x → bag i = nI (Ms i) ∧ Ms i < 16384) {st : Nat → Int32} {a : As} (hst : ∀ k, k < n → (Ms x).testBit k = true → st k = nI (a k) ∧ a k < 4) {k : Nat} (hk : k < n) (kk : Int64 → Int32 → Option Int64) (z : Int) : ∀ (f j : Nat), j ≤ k → k - j < f → L_X9_own_54 (nI x) (nI n) wt near0 ed bag fa pf st kk f (Int64.ofInt (z + si j (owE B Ms ed pf x a k))) (nI k) (nI j) = kk (Int64.ofInt (z + si k (owE B Ms ed pf x a k))) (nI (k + 1)) := by
  have hn := N.1
  intro f
  induction f with
  | zero => intro j h1 h2; omega
  | succ f ih =>
    intro j hj hf
    rw [L_X9_own_54]
    rcases Nat.lt_or_ge j k with c | c
    · have ih := ih (j + 1) (by omega) (by omega)
      rw [si] at ih
      rw [if_neg (nI_ge c (by omega)), cal_e (edge_n N hk (by omega))]
      by_cases e : (B k).testBit j = true
      · have h2 : 2 ^ k ||| 2 ^ j < 16384 := or_lt (pow_lt14 (by omega)) (pow_lt14 (by omega))
        rw [if_pos e, if_neg n10, nx_bit1 k (by omega), nx_bit1 j (by omega), nx_or, cal_e (first_n hx h2 hM)]
        by_cases d : fsB Ms x (2 ^ k ||| 2 ^ j) = true
        · have s := subB_t.mp (fsB_t.mp d).1
          have mk := s k (by rw [Nat.testBit_or, Nat.testBit_two_pow_self]; rfl)
          have mj := s j (by rw [Nat.testBit_or, Nat.testBit_two_pow_self, Bool.or_true])
          obtain ⟨k1, k2⟩ := hst k hk mk
          obtain ⟨j1, j2⟩ := hst j (by omega) mj
          rw [owE, if_pos (by rw [e, d]; rfl)] at ih
          rw [if_pos d, if_neg n10, nx_14, ld_ok _ (in196 (by omega)), ld_ok _ (in14 (by omega)), ld_ok _ (in14 (by omega)), cl14 (by omega), cl14 (by omega), k1, j1, nx_4, ld_ok _ (in16 (by omega)), nI_clamp (by omega), nI_clamp (by omega), bnd_s, bnd_s, nI_1, i64, i64, ← Int64.ofInt_mul, ← Int64.ofInt_add, Int.add_assoc]
          exact ih
        · rw [owE, if_neg (by rw [bf d, Bool.and_false]; decide), Int.add_zero] at ih
          rw [if_neg d, if_pos rfl, bnd_s, nI_1]
          exact ih
      · rw [owE, if_neg (by rw [bf e, Bool.false_and]; decide), Int.add_zero] at ih
        rw [if_neg e, if_pos rfl, bnd_s, nI_1]
        exact ih
    · rw [if_pos (nI_le c (by omega)), bnd_s, nI_1, show j = k by omega]
theorem l_o5 {n : Nat} {B : Nat → Nat} {near0 : Nat → Int32} (N : NetN n B near0) (wt ed fa pf : Nat → Int32) {x : Nat} (hx : x < 14) {bag : Nat → Int32} {Ms : Nat → Nat} (hM : ∀ i, i ≤ x → bag i = nI (Ms i) ∧ Ms i < 16384) {st : Nat → Int32} {a : As} (hst : ∀ k, k < n → (Ms x).testBit k = true → st k = nI (a k) ∧ a k < 4) : ∀ (f k : Nat), k ≤ n → n - k < f → L_X9_own_5 (nI x) (nI n) wt near0 ed bag fa pf st f (Int64.ofInt (si k (fun k => owK Ms wt fa x a k + si k (owE B Ms ed pf x a k)))) (nI k) = some (Int64.ofInt (ow n B Ms wt ed fa pf x a)) := by
  have hn := N.1
  intro f
  induction f with
  | zero => intro j h1 h2; omega
  | succ f ih =>
    intro k hk hf
    rw [L_X9_own_5]
    rcases Nat.lt_or_ge k n with c | c
    · have ih := ih (k + 1) (by omega) (by omega)
      rw [si, ← Int.add_assoc] at ih
      rw [if_neg (nI_ge c (by omega)), nx_bit1 k (by omega), cal_e (first_n hx (pow_lt14 (by omega)) hM)]
      by_cases d : fsB Ms x (2 ^ k) = true
      · have s := subB_t.mp (fsB_t.mp d).1
        have mk := s k (by rw [Nat.testBit_two_pow_self])
        obtain ⟨k1, k2⟩ := hst k c mk
        rw [owK, if_pos d] at ih
        rw [if_pos d, if_neg n10, ld_ok _ (in14 (by omega)), ld_ok _ (in14 (by omega)), cl14 (by omega), k1, ld_ok _ (in4 k2), nI_clamp (by omega), bnd_s, bnd_s, i64, i64, ← Int64.ofInt_mul, ← Int64.ofInt_add]
        have q := l_o54 N wt ed fa pf hx hM hst c (fun y0 y1 => L_X9_own_5 (nI x) (nI n) wt near0 ed bag fa pf st f y0 y1) (si k (fun k => owK Ms wt fa x a k + si k (owE B Ms ed pf x a k)) + wK wt fa k (a k)) NN 0 (Nat.zero_le _) (by show k - 0 < 32768; omega)
        rw [show si 0 (owE B Ms ed pf x a k) = 0 from rfl, Int.add_zero] at q
        exact q.trans ih
      · rw [owK, if_neg d, Int.add_zero] at ih
        rw [if_neg d, if_pos rfl, bnd_s]
        have q := l_o54 N wt ed fa pf hx hM hst c (fun y0 y1 => L_X9_own_5 (nI x) (nI n) wt near0 ed bag fa pf st f y0 y1) (si k (fun k => owK Ms wt fa x a k + si k (owE B Ms ed pf x a k))) NN 0 (Nat.zero_le _) (by show k - 0 < 32768; omega)
        rw [show si 0 (owE B Ms ed pf x a k) = 0 from rfl, Int.add_zero] at q
        exact q.trans ih
    · rw [if_pos (nI_le c (by omega)), show k = n by omega]
      rfl
theorem own_n {n : Nat} {B : Nat → Nat} {near0 : Nat → Int32} (N : NetN n B near0) (wt ed fa pf : Nat → Int32) {x : Nat} (hx : x < 14) {bag : Nat → Int32} {Ms : Nat → Nat} (hM : ∀ i, i ≤ x → bag i = nI (Ms i) ∧ Ms i < 16384) {st : Nat → Int32} {a : As} (hst : ∀ k, k < n → (Ms x).testBit k = true → st k = nI (a k) ∧ a k < 4) : f_X9_own (nI x) (nI n) wt near0 ed bag fa pf st = some (Int64.ofInt (ow n B Ms wt ed fa pf x a)) := by
  unfold f_X9_own
  rw [bnd_s, bnd_s]
  exact l_o5 N wt ed fa pf hx hM hst NN 0 (Nat.zero_le _) (by have := N.1; show n - 0 < 32768; omega)
noncomputable def vC (P : Prop) (w : Int) : Va := @vI P (Classical.propDecidable P) w
theorem vC_t {P : Prop} {w : Int} (h : P) : vC P w = some (1, w, 1) := if_pos h
theorem vC_f {P : Prop} {w : Int} (h : ¬P) : vC P w = none := if_neg h
theorem vC_m (P Q : Prop) (w u : Int) : vMul (vC P w) (vC Q u) = vC (P ∧ Q) (w + u) := by
  by_cases hP : P
  · by_cases hQ : Q
    · rw [vC_t hP, vC_t hQ, vC_t ⟨hP, hQ⟩]; rfl
    · rw [vC_f hQ, vC_f (show ¬(P ∧ Q) from fun z => hQ z.2), vC_t hP]; rfl
  · rw [vC_f hP, vC_f (show ¬(P ∧ Q) from fun z => hP z.1)]; rfl
theorem vC_c {P Q : Prop} {w u : Int} (h : P ↔ Q) (e : w = u) : vC P w = vC Q u := by
  rw [propext h, e]
theorem vB_C (P : Prop) {w : Int} {β : Nat} (h : w.natAbs ≤ β) : vB 1 β (vC P w) := @vB_I P (Classical.propDecidable P) w β h
theorem cS_pc (m : Nat) : ∀ k, cS (tbF m) k = pcU k m := by
  intro k
  induction k with
  | zero => rfl
  | succ k ih => rw [cS, pcU, ih]
theorem si_abs {f : Nat → Int} {β : Nat} : ∀ m, (∀ i, i < m → (f i).natAbs ≤ β) → (si m f).natAbs ≤ m * β := by
  intro m
  induction m with
  | zero => intro _; exact Nat.zero_le _
  | succ m ih =>
    intro h
    have h1 := ih (fun i hi => h i (by omega))
    have h2 := h m (by omega)
    rw [si, Nat.add_mul]
    omega
theorem Sn_cS {m : Nat} {S : Nat → Nat → Bool} : ∀ n, (∀ i j k, i < j → j < m → k < n → ¬(S i k = true ∧ S j k = true)) → Sn m (fun i => cS (S i) n) ≤ n := by
  intro n
  induction n with
  | zero =>
    intro _
    have : ∀ m, Sn m (fun i => cS (S i) 0) = 0 := by
      intro m
      induction m with
      | zero => rfl
      | succ m ih => rw [Sn, ih]; rfl
    rw [this m]; exact Nat.le_refl _
  | succ n ih =>
    intro h
    have h1 := ih (fun i j k a b c => h i j k a b (by omega))
    have e : Sn m (fun i => cS (S i) (n + 1)) = Sn m (fun i => cS (S i) n) + Sn m (fun i => if S i n = true then 1 else 0) := by
      rw [← Sn_a]; rfl
    have h2 : ∀ m', m' ≤ m → Sn m' (fun i => if S i n = true then 1 else 0) ≤ 1 ∧ (∀ i, i < m' → S i n = false) ∨ (∃ i, i < m' ∧ S i n = true) ∧ Sn m' (fun i => if S i n = true then 1 else 0) ≤ 1 := by
      intro m'
      induction m' with
      | zero => intro _; left; exact ⟨Nat.zero_le _, fun i hi => by omega⟩
      | succ m' ihm =>
        intro hm
        rw [Sn]
        by_cases c : S m' n = true
        · right
          refine ⟨⟨m', by omega, c⟩, ?_⟩
          rw [if_pos c]
          have z : ∀ x, x ≤ m' → Sn x (fun i => if S i n = true then 1 else 0) = 0 := by
            intro x
            induction x with
            | zero => intro _; rfl
            | succ x ihx =>
              intro hx
              rw [Sn, ihx (by omega), if_neg (fun q => h x m' n (by omega) (by omega) (by omega) ⟨q, c⟩)]
          rw [z m' (Nat.le_refl _)]
          exact Nat.le_refl _
        · rw [if_neg c]
          rcases ihm (by omega) with ⟨q1, q2⟩ | ⟨⟨i, q1, q2⟩, q3⟩
          · left
            refine ⟨q1, fun i hi => ?_⟩
            by_cases e : i = m'
            · rw [e]; exact bf c
            · exact q2 i (by omega)
          · right
            exact ⟨⟨i, by omega, q2⟩, q3⟩
    have h3 : Sn m (fun i => if S i n = true then 1 else 0) ≤ 1 := by
      rcases h2 m (Nat.le_refl _) with q | q
      · exact q.1
      · exact q.2
    rw [e]
    omega
theorem vB_SN {w β : Nat} {f : Nat → Va} : ∀ N, (∀ i, i < N → vB w β (f i)) → vB (N * w) β (SN N f) := by
  intro N
  induction N with
  | zero => intro _; exact vB_0 _ _
  | succ N ih =>
    intro h
    rw [SN, Nat.add_mul, Nat.one_mul]
    exact vB_add (ih fun i hi => h i (by omega)) (h N (by omega))
/-- a net, a tree of bags, a law, as the questions see them -/
def AskN (n b : Nat) (B Ms par : Nat → Nat) (near0 bag up : Nat → Int32) : Prop := NetN n B near0 ∧ 0 < b ∧ b ≤ 14 ∧ (∀ i, i < b → bag i = nI (Ms i) ∧ Ms i < 2 ^ n ∧ pcN (Ms i) ≤ 5) ∧ (∀ i, i < b → (up i = nI (par i) ∧ i < par i ∧ par i < b) ∨ (up i = -1 ∧ par i = b))
/-- what a bag shares with its up -/
def Dm (b : Nat) (Ms par : Nat → Nat) (i : Nat) : Nat := if par i < b then Ms i &&& Ms (par i) else 0
def Ss (b : Nat) (Ms par : Nat → Nat) (i k : Nat) : Bool := (Ms i).testBit k && !(Dm b Ms par i).testBit k
noncomputable def lcM (n : Nat) (B Ms : Nat → Nat) (op bar : Nat → Nat → Bool) (wt ed fa pf : Nat → Int32) (sg : Int) (i : Nat) (a : As) : Va := vC (Vd n B op bar (Ms i) a) (sg * ow n B Ms wt ed fa pf i a)
theorem Dm_sub {b : Nat} {Ms par : Nat → Nat} {i k : Nat} (h : (Dm b Ms par i).testBit k = true) : (Ms i).testBit k = true ∧ par i < b ∧ (Ms (par i)).testBit k = true := by
  unfold Dm at h
  by_cases c : par i < b
  · rw [if_pos c, Nat.testBit_and, Bool.and_eq_true] at h
    exact ⟨h.1, c, h.2⟩
  · rw [if_neg c, Nat.zero_testBit] at h; cases h
theorem Ss_D {b : Nat} {Ms par : Nat → Nat} {i k : Nat} : (Ms i).testBit k = ((Dm b Ms par i).testBit k || Ss b Ms par i k) := by
  unfold Ss
  by_cases c : (Dm b Ms par i).testBit k = true
  · rw [c, (Dm_sub c).1]; rfl
  · rw [bf c]; cases (Ms i).testBit k <;> rfl
theorem Ss_n {b : Nat} {Ms par : Nat → Nat} {i k : Nat} : ¬((Dm b Ms par i).testBit k = true ∧ Ss b Ms par i k = true) := by
  rintro ⟨h1, h2⟩
  unfold Ss at h2
  rw [h1, Bool.not_true, Bool.and_false] at h2
  cases h2
theorem ow_dp {n : Nat} {B Ms : Nat → Nat} {wt ed fa pf : Nat → Int32} {x : Nat} {a a' : As} (h : ∀ k, k < n → (Ms x).testBit k = true → a k = a' k) : ow n B Ms wt ed fa pf x a = ow n B Ms wt ed fa pf x a' := by
  unfold ow
  refine si_c n fun k hk => ?_
  have e1 : owK Ms wt fa x a k = owK Ms wt fa x a' k := by
    unfold owK
    by_cases c : fsB Ms x (2 ^ k) = true
    · rw [if_pos c, if_pos c, h k hk (subB_t.mp (fsB_t.mp c).1 k (by rw [Nat.testBit_two_pow_self]))]
    · rw [if_neg c, if_neg c]
  rw [e1]
  congr 1
  refine si_c k fun j hj => ?_
  unfold owE
  by_cases c : ((B k).testBit j && fsB Ms x (2 ^ k ||| 2 ^ j)) = true
  · have s := subB_t.mp (fsB_t.mp (Bool.and_eq_true _ _ ▸ c).2).1
    rw [if_pos c, if_pos c, h k hk (s k (by rw [Nat.testBit_or, Nat.testBit_two_pow_self]; rfl)), h j (by omega) (s j (by rw [Nat.testBit_or, Nat.testBit_two_pow_self, Bool.or_true]))]
  · rw [if_neg c, if_neg c]
theorem lcM_dp {n : Nat} {B Ms : Nat → Nat} {op bar : Nat → Nat → Bool} {wt ed fa pf : Nat → Int32} {sg : Int} (i : Nat) : Dp n (tbF (Ms i)) (lcM n B Ms op bar wt ed fa pf sg i) := by
  intro a a' h
  have h' : ∀ k, k < n → (Ms i).testBit k = true → a k = a' k := h
  unfold lcM
  refine vC_c ?_ (by rw [ow_dp h'])
  unfold Vd EdO
  constructor
  · rintro ⟨h1, h2⟩
    exact ⟨fun k hk hm => by rw [← h' k hk hm]; exact h1 k hk hm, fun k j hk hj m1 m2 m3 => by rw [← h' k hk m1, ← h' j (by omega) m2]; exact h2 k j hk hj m1 m2 m3⟩
  · rintro ⟨h1, h2⟩
    exact ⟨fun k hk hm => by rw [h' k hk hm]; exact h1 k hk hm, fun k j hk hj m1 m2 m3 => by rw [h' k hk m1, h' j (by omega) m2]; exact h2 k j hk hj m1 m2 m3⟩
theorem ch_dp {n b : Nat} {Ms par : Nat → Nat} {loc : Nat → As → Va} {i : Nat} (hi : i < b) (hl : Dp n (tbF (Ms i)) (loc i)) (ht : ∀ j, j < i → Dp n (tbF (Dm b Ms par j)) (Tt n (Ss b Ms par) loc par j)) : Dp n (tbF (Ms i)) (fun a => vMul (loc i a) (Pr i (fun j => if par j = i then Tt n (Ss b Ms par) loc par j a else va1))) := by
  refine Dp_m hl (Dp_P (F := fun j a => if par j = i then Tt n (Ss b Ms par) loc par j a else va1) i fun j hj => ?_)
  by_cases c : par j = i
  · refine fun a a' h => ?_
    show (if par j = i then Tt n (Ss b Ms par) loc par j a else va1) = if par j = i then Tt n (Ss b Ms par) loc par j a' else va1
    rw [if_pos c, if_pos c]
    refine ht j hj a a' fun k hk hd => h k hk ?_
    have := (Dm_sub hd).2.2
    rw [c] at this
    exact this
  · intro a a' _
    show (if par j = i then Tt n (Ss b Ms par) loc par j a else va1) = if par j = i then Tt n (Ss b Ms par) loc par j a' else va1
    rw [if_neg c, if_neg c]
theorem Tt_dp {n b : Nat} {Ms par : Nat → Nat} {loc : Nat → As → Va} (hl : ∀ i, i < b → Dp n (tbF (Ms i)) (loc i)) : ∀ i, i < b → Dp n (tbF (Dm b Ms par i)) (Tt n (Ss b Ms par) loc par i) := by
  intro i
  induction i using Nat.strongRecOn with
  | ind i ih =>
    intro hi a a' h
    rw [Tt_e, Tt_e]
    refine Dp_n (D := tbF (Dm b Ms par i)) ?_ a a' h
    exact Dp_mono (ch_dp hi (hl i hi) (fun j hj => ih j hj (by omega))) (fun k _ hm => by rw [← Ss_D]; exact hm)
