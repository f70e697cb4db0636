/-! Nets in which knots go: what is around a knot when others are gone. -/
/-- a set that holds k and its neighbours, and with each gone knot that one's neighbours -/
def Cl (B : Nat → Nat) (G k T : Nat) : Prop := T.testBit k = true ∧ (∀ i, (B k).testBit i = true → T.testBit i = true) ∧ ∀ v, T.testBit v = true → G.testBit v = true → ∀ i, (B v).testBit i = true → T.testBit i = true
/-- r is what is around k: the least such set without the gone ones and k -/
def IsAr (B : Nat → Nat) (G k r : Nat) : Prop := ∃ S, S < 16384 ∧ Cl B G k S ∧ (∀ T, Cl B G k T → ∀ i, S.testBit i = true → T.testBit i = true) ∧ ∀ i, r.testBit i = true ↔ (S.testBit i = true ∧ G.testBit i = false ∧ i ≠ k)
theorem bf {b : Bool} (h : ¬ b = true) : b = false := by cases b; rfl; exact absurd rfl h
theorem or_t {a b i : Nat} : (a ||| b).testBit i = true ↔ (a.testBit i = true ∨ b.testBit i = true) := by
  rw [Nat.testBit_or, Bool.or_eq_true]
theorem or_f {a b i : Nat} : (a ||| b).testBit i = false ↔ (a.testBit i = false ∧ b.testBit i = false) := by
  rw [Nat.testBit_or, Bool.or_eq_false_iff]
theorem or2_t {a v i : Nat} : (a ||| 2 ^ v).testBit i = true ↔ (a.testBit i = true ∨ v = i) := by
  rw [tb_or2, Bool.or_eq_true, decide_eq_true_iff]
theorem or2_f {a v i : Nat} : (a ||| 2 ^ v).testBit i = false ↔ (a.testBit i = false ∧ v ≠ i) := by
  rw [tb_or2, Bool.or_eq_false_iff, decide_eq_false_iff_not]
theorem nd_t {a b i : Nat} (ha : a < 2 ^ 32) : (nd a b).testBit i = true ↔ (a.testBit i = true ∧ b.testBit i = false) := by
  rw [nd_bit b i ha, Bool.and_eq_true, Bool.not_eq_true']
theorem nd2_t {a v i : Nat} (ha : a < 2 ^ 32) : (nd a (2 ^ v)).testBit i = true ↔ (a.testBit i = true ∧ v ≠ i) := by
  rw [nd_t ha, Nat.testBit_two_pow, decide_eq_false_iff_not]
theorem ar_gone {B : Nat → Nat} {G k v r rv r' : Nat} (h : IsAr B G k r) (hv : IsAr B G v rv) (h' : IsAr B (G ||| 2 ^ v) k r') (gv : G.testBit v = false) (hkv : k ≠ v) (i : Nat) : r'.testBit i = true ↔ (i ≠ v ∧ (r.testBit i = true ∨ (r.testBit v = true ∧ rv.testBit i = true ∧ i ≠ k))) := by
  obtain ⟨S, _, c, m, e⟩ := h
  obtain ⟨Sv, _, cv, mv, ev⟩ := hv
  obtain ⟨S', _, c', m', e'⟩ := h'
  have c0 : Cl B G k S' := ⟨c'.1, c'.2.1, fun w hw hg => c'.2.2 w hw (or2_t.mpr (Or.inl hg))⟩
  have s1 := m S' c0
  rw [e' i, e i, ev i, e v, or2_f]
  by_cases hb : S.testBit v = true
  · have cu : Cl B (G ||| 2 ^ v) k (S ||| Sv) := by
      refine ⟨or_t.mpr (Or.inl c.1), fun j hj => or_t.mpr (Or.inl (c.2.1 j hj)), fun w hw hg j hj => ?_⟩
      rcases or2_t.mp hg with g | g
      · rcases or_t.mp hw with z | z
        · exact or_t.mpr (Or.inl (c.2.2 w z g j hj))
        · exact or_t.mpr (Or.inr (cv.2.2 w z g j hj))
      · subst g; exact or_t.mpr (Or.inr (cv.2.1 j hj))
    have s2 := m' _ cu
    have s3 : ∀ j, Sv.testBit j = true → S'.testBit j = true := by
      refine mv S' ⟨s1 v hb, fun j hj => c'.2.2 v (s1 v hb) (or2_t.mpr (Or.inr rfl)) j hj, c0.2.2⟩
    constructor
    · rintro ⟨a, ⟨b1, b2⟩, d⟩
      refine ⟨fun z => b2 z.symm, ?_⟩
      rcases or_t.mp (s2 i a) with z | z
      · exact Or.inl ⟨z, b1, d⟩
      · exact Or.inr ⟨⟨hb, gv, fun z => hkv z.symm⟩, ⟨z, b1, fun z => b2 z.symm⟩, d⟩
    · rintro ⟨a, ⟨b1, b2, b3⟩ | ⟨_, ⟨b1, b2, _⟩, b3⟩⟩
      · exact ⟨s1 i b1, ⟨b2, fun z => a z.symm⟩, b3⟩
      · exact ⟨s3 i b1, ⟨b2, fun z => a z.symm⟩, b3⟩
  · have cu : Cl B (G ||| 2 ^ v) k S := by
      refine ⟨c.1, c.2.1, fun w hw hg j hj => ?_⟩
      rcases or2_t.mp hg with g | g
      · exact c.2.2 w hw g j hj
      · subst g; exact absurd hw hb
    have s2 := m' _ cu
    constructor
    · rintro ⟨a, ⟨b1, b2⟩, d⟩
      exact ⟨fun z => b2 z.symm, Or.inl ⟨s2 i a, b1, d⟩⟩
    · rintro ⟨a, ⟨b1, b2, b3⟩ | ⟨⟨b1, _⟩, _⟩⟩
      · exact ⟨s1 i b1, ⟨b2, fun z => a z.symm⟩, b3⟩
      · exact absurd b1 hb
theorem ar_symm {B : Nat → Nat} (hB : ∀ a b, (B a).testBit b = true → (B b).testBit a = true) {G k i r ri : Nat} (h : IsAr B G k r) (hi : IsAr B G i ri) (gk : G.testBit k = false) (gi : G.testBit i = false) (hr : r.testBit i = true) : ri.testBit k = true := by
  obtain ⟨S, hS, c, m, e⟩ := h
  obtain ⟨W, hW, cw, mw, ew⟩ := hi
  obtain ⟨si, _, hik⟩ := (e i).mp hr
  rw [ew k]
  refine ⟨?_, gk, fun z => hik z.symm⟩
  by_cases hw : W.testBit k = true
  · exact hw
  · exfalso
    have ht : ∀ j, (nd S ((G &&& W) ||| 2 ^ i)).testBit j = true ↔ (S.testBit j = true ∧ ¬ (G.testBit j = true ∧ W.testBit j = true) ∧ i ≠ j) := by
      intro j
      rw [nd_t (by omega), or2_f, Nat.testBit_and]
      cases G.testBit j <;> cases W.testBit j <;> simp
    have ct : Cl B G k (nd S ((G &&& W) ||| 2 ^ i)) := by
      refine ⟨(ht k).mpr ⟨c.1, fun z => by rw [gk] at z; exact absurd z.1 (by decide), hik⟩, fun j hj => ?_, fun w hw2 hg j hj => ?_⟩
      · refine (ht j).mpr ⟨c.2.1 j hj, fun z => hw (cw.2.2 j z.2 z.1 k (hB _ _ hj)), fun z => ?_⟩
        subst z; exact hw (cw.2.1 k (hB _ _ hj))
      · obtain ⟨a1, a2, a3⟩ := (ht w).mp hw2
        have nw : ¬ W.testBit w = true := fun z => a2 ⟨hg, z⟩
        refine (ht j).mpr ⟨c.2.2 w a1 hg j hj, fun z => nw (cw.2.2 j z.2 z.1 w (hB _ _ hj)), fun z => ?_⟩
        subst z; exact nw (cw.2.1 w (hB _ _ hj))
    exact ((ht i).mp (m _ ct i si)).2.2 rfl
/-- a table of what is around, for all sets of gone knots of n ones -/
def ArS (n : Nat) (B : Nat → Nat) (ar : Nat → Nat → Nat) : Prop :=
  (∀ G k i, G < 2 ^ n → k < n → (ar G k).testBit i = true → i < n ∧ i ≠ k ∧ G.testBit i = false) ∧
  (∀ G k i, G < 2 ^ n → k < n → G.testBit k = false → (ar G k).testBit i = true → (ar G i).testBit k = true) ∧
  (∀ G v k i, G < 2 ^ n → v < n → k < n → G.testBit v = false → k ≠ v → ((ar (G ||| 2 ^ v) k).testBit i = true ↔ (i ≠ v ∧ ((ar G k).testBit i = true ∨ ((ar G k).testBit v = true ∧ (ar G v).testBit i = true ∧ i ≠ k))))) ∧
  (∀ G k i, G < 2 ^ n → k < n → (B k).testBit i = true → G.testBit i = false → (ar G k).testBit i = true)
theorem lt2n {n G v : Nat} (h : G < 2 ^ n) (hv : v < n) : G ||| 2 ^ v < 2 ^ n := Nat.or_lt_two_pow h (Nat.pow_lt_pow_right (by decide) hv)
def Fit (n : Nat) (ar : Nat → Nat → Nat) (L : Int) : Nat → Nat → Prop
  | 0, G => ∀ i, i < n → G.testBit i = true
  | m + 1, G => ∃ v, v < n ∧ G.testBit v = false ∧ (pcN (ar G v) : Int) ≤ L ∧ Fit n ar L m (G ||| 2 ^ v)
theorem pcN_mono {a b : Nat} (h : ∀ i, a.testBit i = true → b.testBit i = true) : pcN a ≤ pcN b := pcU_mono fun i _ => h i
theorem pcN_add_le (m j : Nat) : pcN (m ||| 2 ^ j) ≤ pcN m + 1 := by
  by_cases h : m.testBit j = true
  · have : pcN (m ||| 2 ^ j) ≤ pcN m := pcN_mono fun i hi => by
      rcases or2_t.mp hi with z | z
      · exact z
      · subst z; exact h
    omega
  · rcases Nat.lt_or_ge j 14 with hj | hj
    · exact Nat.le_of_eq (pcU_add hj (bf h))
    · have : pcN (m ||| 2 ^ j) = pcN m := pcU_congr fun i hi => by rw [tb_or2, decide_eq_false (by omega), Bool.or_false]
      omega
theorem pcN_add {m j : Nat} (hj : j < 14) (h : m.testBit j = false) : pcN (m ||| 2 ^ j) = pcN m + 1 := pcU_add hj h
theorem pcN_del {m j : Nat} (hm : m < 2 ^ 32) (hj : j < 14) (h : m.testBit j = true) : pcN (nd m (2 ^ j)) + 1 = pcN m := by
  have h1 : (nd m (2 ^ j)).testBit j = false := bf fun z => ((nd2_t hm).mp z).2 rfl
  rw [← pcN_add hj h1]
  refine pcU_congr fun i _ => ?_
  rw [Bool.eq_iff_iff, or2_t, nd2_t hm]
  constructor
  · rintro (⟨z, _⟩ | z)
    · exact z
    · subst z; exact h
  · intro z
    by_cases e : j = i
    · exact Or.inr e
    · exact Or.inl ⟨z, e⟩
/-- all around h but u are around one another -/
def Hy (n : Nat) (ar : Nat → Nat → Nat) (h u Y : Nat) : Prop :=
  Y < 2 ^ n ∧ Y.testBit h = false ∧ Y.testBit u = false ∧ (u < n → (ar Y h).testBit u = true) ∧
  ∀ k w, (ar Y h).testBit k = true → (ar Y h).testBit w = true → k ≠ u → w ≠ u → k ≠ w → (ar Y k).testBit w = true
theorem Hy_step {n : Nat} {B : Nat → Nat} {ar : Nat → Nat → Nat} (A : ArS n B ar) {h u Y x : Nat} (hh : h < n) (H : Hy n ar h u Y) (hx : x < n) (yx : Y.testBit x = false) (xh : x ≠ h) (xu : x ≠ u) : Hy n ar h u (Y ||| 2 ^ x) := by
  obtain ⟨hY, y1, y2, y3, y4⟩ := H
  obtain ⟨A1, A2, A3, A4⟩ := A
  refine ⟨lt2n hY hx, or2_f.mpr ⟨y1, xh⟩, or2_f.mpr ⟨y2, xu⟩, fun hu => (A3 Y x h u hY hx hh yx (fun z => xh z.symm)).mpr ⟨fun z => xu z.symm, Or.inl (y3 hu)⟩, fun p q hp hq pu qu pq => ?_⟩
  have ep := (A3 Y x h p hY hx hh yx (fun z => xh z.symm)).mp hp
  have eq := (A3 Y x h q hY hx hh yx (fun z => xh z.symm)).mp hq
  have key : ∀ r, (r ≠ x ∧ ((ar Y h).testBit r = true ∨ ((ar Y h).testBit x = true ∧ (ar Y x).testBit r = true ∧ r ≠ h))) → r ≠ u → r < n ∧ Y.testBit r = false ∧ ((ar Y h).testBit x = true → (ar Y x).testBit r = true) := by
    rintro r ⟨r1, r2⟩ ru
    rcases r2 with r2 | ⟨r2, r3, r4⟩
    · have := A1 Y h r hY hh r2
      exact ⟨this.1, this.2.2, fun hx2 => y4 x r hx2 r2 xu ru (fun z => r1 z.symm)⟩
    · have := A1 Y x r hY hx r3
      exact ⟨this.1, this.2.2, fun _ => r3⟩
  obtain ⟨p1, p2, p3⟩ := key p ep pu
  obtain ⟨q1, q2, q3⟩ := key q eq qu
  refine (A3 Y x p q hY hx p1 yx ep.1).mpr ⟨eq.1, ?_⟩
  by_cases c : (ar Y h).testBit x = true
  · exact Or.inr ⟨A2 Y x p hY hx yx (p3 c), q3 c, fun z => pq z.symm⟩
  · rcases ep.2 with a | a
    · rcases eq.2 with b | b
      · exact Or.inl (y4 p q a b pu qu pq)
      · exact absurd b.1 c
    · exact absurd a.1 c
theorem ar_lt {n : Nat} {B : Nat → Nat} {ar : Nat → Nat → Nat} (A : ArS n B ar) (hn : n ≤ 14) {G k : Nat} (hG : G < 2 ^ n) (hk : k < n) : ar G k < 16384 := by
  refine Nat.lt_pow_two_of_testBit (n := 14) _ fun j hj => bf fun z => ?_
  have := (A.1 G k j hG hk z).1
  omega
theorem c1 {n : Nat} {B : Nat → Nat} {ar : Nat → Nat → Nat} (A : ArS n B ar) (hn : n ≤ 14) {h u Y k : Nat} (hh : h < n) (H : Hy n ar h u Y) (hk : k < n) (yk : Y.testBit k = false) (kh : k ≠ h) (ku : k ≠ u) : pcN (ar (Y ||| 2 ^ h) k) ≤ pcN (ar Y k) := by
  obtain ⟨hY, y1, y2, y3, y4⟩ := H
  have hl := ar_lt A hn hY hk
  obtain ⟨A1, A2, A3, A4⟩ := A
  have e := fun i => A3 Y h k i hY hh hk y1 kh
  by_cases c : (ar Y k).testBit h = true
  · have s : pcN (ar (Y ||| 2 ^ h) k) ≤ pcN (nd (ar Y k) (2 ^ h) ||| 2 ^ u) := pcN_mono fun i hi => by
      obtain ⟨a, b⟩ := (e i).mp hi
      by_cases iu : i = u
      · exact or2_t.mpr (Or.inr iu.symm)
      · refine or2_t.mpr (Or.inl ((nd2_t (by omega)).mpr ⟨?_, fun z => a z.symm⟩))
        rcases b with b | ⟨_, b, b2⟩
        · exact b
        · exact y4 k i (A2 Y k h hY hk yk c) b ku iu (fun z => b2 z.symm)
    have d := pcN_del (m := ar Y k) (j := h) (by omega) (by omega) c
    have d2 := pcN_add_le (nd (ar Y k) (2 ^ h)) u
    omega
  · exact pcN_mono fun i hi => by
      obtain ⟨a, b⟩ := (e i).mp hi
      rcases b with b | ⟨b, _⟩
      · exact b
      · exact absurd b c
theorem c2 {n : Nat} {B : Nat → Nat} {ar : Nat → Nat → Nat} (A : ArS n B ar) (hn : n ≤ 14) {h u Y k : Nat} (hh : h < n) (hu : u < n) (huh : u ≠ h) (H : Hy n ar h u Y) (hk : k < n) (yk : Y.testBit k = false) (kh : k ≠ h) (ku : k ≠ u) : pcN (ar (Y ||| 2 ^ h) k) ≤ pcN (ar (Y ||| 2 ^ u) k) := by
  have H0 := H
  obtain ⟨hY, y1, y2, y3, y4⟩ := H
  have hl := ar_lt A hn hY hk
  have A0 := A
  obtain ⟨A1, A2, A3, A4⟩ := A
  have e := fun i => A3 Y h k i hY hh hk y1 kh
  have f := fun i => A3 Y u k i hY hu hk y2 ku
  have f1 : pcN (nd (ar Y k) (2 ^ u)) ≤ pcN (ar (Y ||| 2 ^ u) k) := pcN_mono fun i hi => by
    obtain ⟨a, b⟩ := (nd2_t (by omega)).mp hi
    exact (f i).mpr ⟨fun z => b z.symm, Or.inl a⟩
  by_cases d : (ar Y k).testBit u = true
  · have du := pcN_del (m := ar Y k) (j := u) (by omega) (by omega) d
    by_cases c : (ar Y k).testBit h = true
    · have s : pcN (ar (Y ||| 2 ^ h) k) ≤ pcN (nd (ar Y k) (2 ^ h)) := pcN_mono fun i hi => by
        obtain ⟨a, b⟩ := (e i).mp hi
        refine (nd2_t (by omega)).mpr ⟨?_, fun z => a z.symm⟩
        by_cases iu : i = u
        · subst iu; exact d
        · rcases b with b | ⟨_, b, b2⟩
          · exact b
          · exact y4 k i (A2 Y k h hY hk yk c) b ku iu (fun z => b2 z.symm)
      have dh := pcN_del (m := ar Y k) (j := h) (by omega) (by omega) c
      omega
    · have s : pcN (ar (Y ||| 2 ^ h) k) ≤ pcN (ar Y k) := c1 A0 hn hh H0 hk yk kh ku
      have hb : (nd (ar Y k) (2 ^ u)).testBit h = false := bf fun z => c ((nd2_t (by omega)).mp z).1
      have g : pcN (nd (ar Y k) (2 ^ u) ||| 2 ^ h) ≤ pcN (ar (Y ||| 2 ^ u) k) := pcN_mono fun i hi => by
        rcases or2_t.mp hi with z | z
        · obtain ⟨a, b⟩ := (nd2_t (by omega)).mp z
          exact (f i).mpr ⟨fun z => b z.symm, Or.inl a⟩
        · subst z
          exact (f h).mpr ⟨fun z => huh z.symm, Or.inr ⟨d, A2 Y h u hY hh y1 (y3 hu), fun z => kh z.symm⟩⟩
      rw [pcN_add (by omega) hb] at g
      omega
  · have s : pcN (ar (Y ||| 2 ^ h) k) ≤ pcN (ar Y k) := c1 A0 hn hh H0 hk yk kh ku
    have g : pcN (ar Y k) ≤ pcN (ar (Y ||| 2 ^ u) k) := pcN_mono fun i hi => (f i).mpr ⟨fun z => by subst z; exact d hi, Or.inl hi⟩
    omega
theorem c3 {n : Nat} {B : Nat → Nat} {ar : Nat → Nat → Nat} (A : ArS n B ar) {h u Y : Nat} (hh : h < n) (hu : u < n) (huh : u ≠ h) (H : Hy n ar h u Y) : pcN (ar (Y ||| 2 ^ h) u) ≤ pcN (ar (Y ||| 2 ^ u) h) := by
  obtain ⟨hY, y1, y2, y3, y4⟩ := H
  obtain ⟨A1, A2, A3, A4⟩ := A
  have e := fun i => A3 Y h u i hY hh hu y1 huh
  have f := fun i => A3 Y u h i hY hu hh y2 (fun z => huh z.symm)
  refine pcN_mono fun i hi => (f i).mpr ?_
  obtain ⟨a, b⟩ := (e i).mp hi
  rcases b with b | ⟨_, b, b2⟩
  · exact ⟨(A1 Y u i hY hu b).2.1, Or.inr ⟨y3 hu, b, a⟩⟩
  · exact ⟨b2, Or.inl b⟩
theorem or_sw (a b c : Nat) : a ||| b ||| c = a ||| c ||| b := by rw [Nat.or_assoc, Nat.or_comm b c, ← Nat.or_assoc]
theorem contr {n : Nat} {B : Nat → Nat} {ar : Nat → Nat → Nat} (A : ArS n B ar) (hn : n ≤ 14) {L : Int} {h u : Nat} (hh : h < n) (huh : u ≠ h) : ∀ m, (∀ Y, Hy n ar h u Y → Fit n ar L (m + 1) Y → Fit n ar L m (Y ||| 2 ^ h)) ∧ (u < n → ∀ Y, Hy n ar h u Y → Fit n ar L m (Y ||| 2 ^ u) → Fit n ar L m (Y ||| 2 ^ h)) := by
  intro m
  induction m with
  | zero =>
    constructor
    · rintro Y H ⟨v, v1, v2, v3, v4⟩
      have : v = h := by
        rcases or2_t.mp (v4 h hh) with z | z
        · rw [H.2.1] at z; cases z
        · exact z
      subst this; exact v4
    · intro hu Y H F
      exfalso
      rcases or2_t.mp (F h hh) with z | z
      · rw [H.2.1] at z; cases z
      · exact huh z
  | succ m ih =>
    have Q : u < n → ∀ Y, Hy n ar h u Y → Fit n ar L (m + 1) (Y ||| 2 ^ u) → Fit n ar L (m + 1) (Y ||| 2 ^ h) := by
      rintro hu Y H ⟨v, v1, v2, v3, v4⟩
      obtain ⟨yv, uv⟩ := or2_f.mp v2
      by_cases vh : v = h
      · subst vh
        have := c3 A hh hu huh H
        exact ⟨u, hu, or2_f.mpr ⟨H.2.2.1, fun z => huh z.symm⟩, by omega, by rw [or_sw]; exact v4⟩
      · have := c2 A hn hh hu huh H v1 yv vh (fun z => uv z.symm)
        refine ⟨v, v1, or2_f.mpr ⟨yv, fun z => vh z.symm⟩, by omega, ?_⟩
        rw [or_sw]
        exact ih.2 hu _ (Hy_step A hh H v1 yv vh (fun z => uv z.symm)) (by rw [or_sw]; exact v4)
    refine ⟨?_, Q⟩
    rintro Y H ⟨v, v1, v2, v3, v4⟩
    by_cases vh : v = h
    · subst vh; exact v4
    · by_cases vu : v = u
      · subst vu; exact Q v1 Y H v4
      · have := c1 A hn hh H v1 v2 vh vu
        refine ⟨v, v1, or2_f.mpr ⟨v2, fun z => vh z.symm⟩, by omega, ?_⟩
        rw [or_sw]
        exact ih.1 _ (Hy_step A hh H v1 v2 vh vu) v4
/-- the number of knots that are left -/
def lc (n G : Nat) : Nat := n - pcU n G
theorem lc_step {n G v : Nat} (hv : v < n) (g : G.testBit v = false) : lc n G = lc n (G ||| 2 ^ v) + 1 := by
  have h1 := pcU_add hv g
  have h2 := pcU_le n (G ||| 2 ^ v)
  unfold lc
  omega
theorem Fit_lc {n : Nat} {ar : Nat → Nat → Nat} {L : Int} : ∀ m G, Fit n ar L m G → m = lc n G := by
  intro m
  induction m with
  | zero =>
    intro G h
    have h1 := pcU_full (k := n) (n := n) (m := G) (Nat.le_refl _) h
    unfold lc; omega
  | succ m ih =>
    rintro G ⟨v, v1, v2, v3, v4⟩
    rw [lc_step v1 v2, ← ih _ v4]
def FitG (n : Nat) (ar : Nat → Nat → Nat) (L : Int) (G : Nat) : Prop := Fit n ar L (lc n G) G
theorem FitG_step {n : Nat} {ar : Nat → Nat → Nat} {L : Int} {G v : Nat} (hv : v < n) (g : G.testBit v = false) (hc : (pcN (ar G v) : Int) ≤ L) (h : FitG n ar L (G ||| 2 ^ v)) : FitG n ar L G := by
  unfold FitG
  rw [lc_step hv g]
  exact ⟨v, hv, g, hc, h⟩
theorem FitG_ex {n : Nat} {ar : Nat → Nat → Nat} {L : Int} {G i : Nat} (hi : i < n) (gi : G.testBit i = false) (h : FitG n ar L G) : ∃ v, v < n ∧ G.testBit v = false ∧ (pcN (ar G v) : Int) ≤ L ∧ FitG n ar L (G ||| 2 ^ v) := by
  unfold FitG at h
  rw [lc_step hi gi] at h
  obtain ⟨v, v1, v2, v3, v4⟩ := h
  refine ⟨v, v1, v2, v3, ?_⟩
  have e := lc_step v1 v2
  have e2 := lc_step hi gi
  unfold FitG
  rw [show lc n (G ||| 2 ^ v) = lc n (G ||| 2 ^ i) from by omega]
  exact v4
/-- a harmless knot may go -/
theorem harm {n : Nat} {B : Nat → Nat} {ar : Nat → Nat → Nat} (A : ArS n B ar) (hn : n ≤ 14) {L : Int} {h u G : Nat} (hh : h < n) (huh : u ≠ h) (H : Hy n ar h u G) : FitG n ar L G → FitG n ar L (G ||| 2 ^ h) := by
  intro F
  unfold FitG at F ⊢
  rw [lc_step hh H.2.1] at F
  exact (contr A hn hh huh _).1 G H F
theorem pcU_compl {k X G : Nat} (h : ∀ i, i < k → X.testBit i = !G.testBit i) : pcU k X + pcU k G = k := by
  induction k with
  | zero => rfl
  | succ k ih =>
    have h1 := ih (fun i hi => h i (by omega))
    have h2 := h k (by omega)
    unfold pcU
    rw [h2]
    cases G.testBit k <;> simp <;> omega
theorem pcU_top {n m r : Nat} (hm : n ≤ m) (h : ∀ i, n ≤ i → r.testBit i = false) : pcU m r = pcU n r := by
  induction m with
  | zero => rw [show n = 0 from by omega]
  | succ m ih =>
    rcases Nat.lt_or_ge m n with z | z
    · rw [show n = m + 1 from by omega]
    · show pcU m r + (if r.testBit m = true then 1 else 0) = pcU n r
      rw [ih z, h m z]; rfl
/-- the knots that are left -/
def lm (n G : Nat) : Nat := nd (2 ^ n - 1) G
theorem p2n {n : Nat} (hn : n ≤ 14) : 2 ^ n ≤ 16384 := Nat.pow_le_pow_right (n := 2) (j := 14) (by decide) hn
theorem lm_lt {n : Nat} (hn : n ≤ 14) (G : Nat) : lm n G < 16384 := by
  have h1 := nd_le (2 ^ n - 1) G
  have h2 := p2n hn
  have h3 : 0 < 2 ^ n := Nat.two_pow_pos n
  unfold lm; omega
theorem lm_t {n : Nat} (hn : n ≤ 14) {G i : Nat} : (lm n G).testBit i = true ↔ (i < n ∧ G.testBit i = false) := by
  have h2 := p2n hn
  unfold lm
  rw [nd_t (by omega), tb_all, decide_eq_true_iff]
theorem lm_pc {n : Nat} (hn : n ≤ 14) (G : Nat) : pcN (lm n G) = lc n G := by
  have h1 : pcU n (lm n G) + pcU n G = n := pcU_compl fun i hi => by
    rw [Bool.eq_iff_iff, lm_t hn]
    cases G.testBit i <;> simp [hi]
  have h2 : pcU 14 (lm n G) = pcU n (lm n G) := pcU_top hn fun i hi => bf fun z => by
    have := ((lm_t hn).mp z).1; omega
  unfold pcN lc
  omega
theorem ar_cnt {n : Nat} {B : Nat → Nat} {ar : Nat → Nat → Nat} (A : ArS n B ar) (hn : n ≤ 14) {G v : Nat} (hG : G < 2 ^ n) (hv : v < n) (g : G.testBit v = false) : pcN (ar G v) + 1 ≤ lc n G := by
  have h1 : (ar G v).testBit v = false := bf fun z => (A.1 G v v hG hv z).2.1 rfl
  rw [← pcN_add (by omega) h1, ← lm_pc hn]
  refine pcN_mono fun i hi => (lm_t hn).mpr ?_
  rcases or2_t.mp hi with z | z
  · have := A.1 G v i hG hv z
    exact ⟨this.1, this.2.2⟩
  · subst z; exact ⟨hv, g⟩
theorem lc_pos {n : Nat} (hn : n ≤ 14) {G : Nat} (h : lc n G ≠ 0) : ∃ v, v < n ∧ G.testBit v = false := by
  rw [← lm_pc hn] at h
  have h2 : lm n G ≠ 0 := fun z => h (by rw [z]; exact pcU_0 14)
  obtain ⟨i, hi⟩ := ex_bit h2
  exact ⟨i, (lm_t hn).mp hi⟩
/-- few are left: they may go -/
theorem Fit_few {n : Nat} {B : Nat → Nat} {ar : Nat → Nat → Nat} (A : ArS n B ar) (hn : n ≤ 14) {L : Int} : ∀ m G, G < 2 ^ n → lc n G = m → (m : Int) ≤ L + 1 → Fit n ar L m G := by
  intro m
  induction m with
  | zero =>
    intro G hG hl _ i hi
    by_cases h : G.testBit i = true
    · exact h
    · exfalso
      have := lc_step hi (bf h)
      omega
  | succ m ih =>
    intro G hG hl hL
    obtain ⟨v, hv, g⟩ := lc_pos hn (G := G) (by omega)
    have h1 := ar_cnt A hn hG hv g
    have h2 := lc_step hv g
    exact ⟨v, hv, g, by omega, ih _ (lt2n hG hv) (by omega) (by omega)⟩
theorem FitG_few {n : Nat} {B : Nat → Nat} {ar : Nat → Nat → Nat} (A : ArS n B ar) (hn : n ≤ 14) {L : Int} {G : Nat} (hG : G < 2 ^ n) (h : (lc n G : Int) ≤ L + 1) : FitG n ar L G := Fit_few A hn _ G hG rfl h
/-- of any set of knots one has few neighbours in it -/
theorem lowb {n : Nat} {B : Nat → Nat} {ar : Nat → Nat → Nat} (A : ArS n B ar) {L : Int} {S : Nat} (h0 : ∃ i, S.testBit i = true) : ∀ m G, G < 2 ^ n → Fit n ar L m G → (∀ i, S.testBit i = true → i < n ∧ G.testBit i = false) → ∃ v, S.testBit v = true ∧ (pcN (B v &&& S) : Int) ≤ L := by
  intro m
  induction m with
  | zero =>
    intro G hG F hS
    obtain ⟨i, hi⟩ := h0
    have h1 := F i (hS i hi).1
    rw [(hS i hi).2] at h1; cases h1
  | succ m ih =>
    rintro G hG ⟨v, v1, v2, v3, v4⟩ hS
    by_cases hv : S.testBit v = true
    · refine ⟨v, hv, ?_⟩
      have : pcN (B v &&& S) ≤ pcN (ar G v) := pcN_mono fun i hi => by
        rw [Nat.testBit_and, Bool.and_eq_true] at hi
        exact A.2.2.2 G v i hG v1 hi.1 (hS i hi.2).2
      omega
    · refine ih _ (lt2n hG v1) v4 fun i hi => ⟨(hS i hi).1, or2_f.mpr ⟨(hS i hi).2, fun z => ?_⟩⟩
      subst z; exact hv hi
/-! What the reference tells of what is around. -/
/-- the net, as numbers -/
def NetN (n : Nat) (B : Nat → Nat) (near : Nat → Int32) : Prop := n ≤ 14 ∧ (∀ k, near k = nI (B k)) ∧ (∀ k, B k < 2 ^ n) ∧ (∀ k, n ≤ k → B k = 0) ∧ (∀ k, (B k).testBit k = false) ∧ ∀ a b, (B a).testBit b = true → (B b).testBit a = true
theorem l37 {n : Nat} {B : Nat → Nat} {near : Nat → Int32} (N : NetN n B near) (a2 : Int32) {G : Nat} (hG : G < 2 ^ n) (kk : Int32 → Int32 → Option Int32) (seen more : Nat) (hm : more < 16384) : ∀ (f j front : Nat), j ≤ n → n - j < f → front < 2 ^ n → ∃ fr, fr < 2 ^ n ∧ L_X9_around_37 (nI G) a2 (nI n) near kk f (nI seen) (nI front) (nI more) (nI j) = kk (nI seen) (nI fr) ∧ ∀ i, fr.testBit i = true ↔ (front.testBit i = true ∨ ∃ v, j ≤ v ∧ v < n ∧ more.testBit v = true ∧ G.testBit v = true ∧ (B v).testBit i = true) := by
  obtain ⟨hn, N1, N2, N3, N4, N5⟩ := N
  have hp := p2n hn
  intro f
  induction f with
  | zero => intro j front h1 h2; omega
  | succ f ih =>
    intro j front hj hf hfr
    rw [L_X9_around_37]
    by_cases h : n ≤ j
    · rw [if_pos (nI_le h (by omega))]
      refine ⟨front, hfr, rfl, fun i => ⟨Or.inl, ?_⟩⟩
      rintro (z | ⟨v, z1, z2, _⟩)
      · exact z
      · omega
    · rw [if_neg (nI_ge (by omega) (by omega))]
      have eb : nI j + (1 : Int32) = nI (j + 1) := nI_1 j
      have ec : ((nI more &&& nI G) &&& ((1 : Int32) <<< (nI j &&& 31))) = nI ((more &&& G) &&& 2 ^ j) := by
        rw [nx_bit1 j (by omega), nx_and, nx_and]
      have hle : (more &&& G) &&& 2 ^ j ≤ 2 ^ j := Nat.and_le_right
      have hpj := pow_lt14 (k := j) (by omega)
      have eq0 : (nI ((more &&& G) &&& 2 ^ j) = 0) ↔ ¬ (more.testBit j = true ∧ G.testBit j = true) := by
        show nI _ = nI 0 ↔ _
        rw [nI_eq (by omega) (by decide)]
        constructor
        · rintro z ⟨a, b⟩
          have : ((more &&& G) &&& 2 ^ j).testBit j = true := by rw [Nat.testBit_and, Nat.testBit_and, a, b, Nat.testBit_two_pow_self]; rfl
          rw [z, Nat.zero_testBit] at this; cases this
        · intro z
          apply Nat.eq_of_testBit_eq
          intro i
          rw [Nat.zero_testBit, Nat.testBit_and, Nat.testBit_and, Nat.testBit_two_pow]
          by_cases e : j = i
          · subst e
            refine bf fun w => z ?_
            rw [Bool.and_eq_true, Bool.and_eq_true] at w
            exact w.1
          · rw [decide_eq_false e, Bool.and_false]
      by_cases c : more.testBit j = true ∧ G.testBit j = true
      · rw [if_neg (by rw [ec, eq0]; exact fun z => z c), ld_ok _ (nI_in (c := j) (N := 14) (by omega) (by decide)), bnd_s, bnd_s, nI_clamp (by omega), N1 j, nx_or, eb]
        obtain ⟨fr, f1, f2, f3⟩ := ih (j + 1) (front ||| B j) (by omega) (by omega) (Nat.or_lt_two_pow hfr (N2 j))
        refine ⟨fr, f1, f2, fun i => ?_⟩
        rw [f3 i, or_t]
        constructor
        · rintro ((z | z) | ⟨v, z1, z2⟩)
          · exact Or.inl z
          · exact Or.inr ⟨j, Nat.le_refl _, by omega, c.1, c.2, z⟩
          · exact Or.inr ⟨v, by omega, z2⟩
        · rintro (z | ⟨v, z1, z2, z3, z4, z5⟩)
          · exact Or.inl (Or.inl z)
          · by_cases e : v = j
            · subst e; exact Or.inl (Or.inr z5)
            · exact Or.inr ⟨v, by omega, z2, z3, z4, z5⟩
      · rw [if_pos (by rw [ec, eq0]; exact c), bnd_s, eb]
        obtain ⟨fr, f1, f2, f3⟩ := ih (j + 1) front (by omega) (by omega) hfr
        refine ⟨fr, f1, f2, fun i => ?_⟩
        rw [f3 i]
        constructor
        · rintro (z | ⟨v, z1, z2⟩)
          · exact Or.inl z
          · exact Or.inr ⟨v, by omega, z2⟩
        · rintro (z | ⟨v, z1, z2, z3, z4, z5⟩)
          · exact Or.inl z
          · by_cases e : v = j
            · subst e; exact absurd ⟨z3, z4⟩ c
            · exact Or.inr ⟨v, by omega, z2, z3, z4, z5⟩
theorem l12 {n : Nat} {B : Nat → Nat} {near : Nat → Int32} (N : NetN n B near) {G k : Nat} (hG : G < 2 ^ n) (hk : k < n) : ∀ (f seen front : Nat), 16384 - seen < f → seen < 2 ^ n → front < 2 ^ n → seen.testBit k = true → (∀ v, seen.testBit v = true → (v = k ∨ G.testBit v = true) → ∀ i, (B v).testBit i = true → front.testBit i = true) → (∀ T, Cl B G k T → ∀ i, (seen.testBit i = true ∨ front.testBit i = true) → T.testBit i = true) → ∃ r, r < 16384 ∧ L_X9_around_12 (nI G) (nI k) (nI n) near f (nI seen) (nI front) = some (nI r) ∧ IsAr B G k r := by
  have N0 := N
  obtain ⟨hn, N1, N2, N3, N4, N5⟩ := N
  have hp := p2n hn
  intro f
  induction f with
  | zero => intro seen front h; omega
  | succ f ih =>
    intro seen front hf hs hfr i1 i2 i3
    rw [L_X9_around_12]
    have hle := nd_le front seen
    rw [nx_nd]
    by_cases h : nd front seen = 0
    · rw [if_pos (by rw [h]; rfl)]
      have sub : ∀ i, front.testBit i = true → seen.testBit i = true := by
        intro i hi
        by_cases z : seen.testBit i = true
        · exact z
        · exfalso
          have := (nd_t (a := front) (b := seen) (i := i) (by omega)).mpr ⟨hi, bf z⟩
          rw [h, Nat.zero_testBit] at this; cases this
      have hpk := pow_lt14 (k := k) (by omega)
      have e1 : nI seen &&& (nI G ^^^ (-1 : Int32)) &&& (((1 : Int32) <<< (nI k &&& 31)) ^^^ (-1 : Int32)) = nI (nd (nd seen G) (2 ^ k)) := by
        rw [nx_bit1 k (by omega), nx_nd, nx_nd]
      have hd := nd_le seen G
      have hd2 := nd_le (nd seen G) (2 ^ k)
      refine ⟨nd (nd seen G) (2 ^ k), by omega, by rw [e1], seen, by omega, ⟨i1, fun i hi => sub i (i2 k i1 (Or.inl rfl) i hi), fun v hv hg i hi => sub i (i2 v hv (Or.inr hg) i hi)⟩, fun T hT i hi => i3 T hT i (Or.inl hi), fun i => ?_⟩
      rw [nd2_t (by omega), nd_t (by omega)]
      exact ⟨fun ⟨⟨a, b⟩, c⟩ => ⟨a, b, fun z => c z.symm⟩, fun ⟨a, b, c⟩ => ⟨⟨a, b⟩, fun z => c z.symm⟩⟩
    · rw [if_neg (nI_ne0 (by omega) (by omega)), bnd_s, bnd_s, bnd_s, nx_or]
      have hlt : seen ||| nd front seen < 2 ^ n := Nat.or_lt_two_pow hs (by omega)
      obtain ⟨fr, f1, f2, f3⟩ := l37 N0 (nI k) hG (fun y0 y1 => L_X9_around_12 (nI G) (nI k) (nI n) near f y0 y1) (seen ||| nd front seen) (nd front seen) (by omega) NN 0 front (by omega) (by show n - 0 < 32768; omega) hfr
      show ∃ r, r < 16384 ∧ L_X9_around_37 (nI G) (nI k) (nI n) near _ NN (nI (seen ||| nd front seen)) (nI front) (nI (nd front seen)) (nI 0) = some (nI r) ∧ _
      rw [f2]
      have hgt : seen < seen ||| nd front seen := by
        obtain ⟨i, hi⟩ := ex_bit h
        have h1 : seen ≤ seen ||| nd front seen := Nat.left_le_or
        have h2 : seen ≠ seen ||| nd front seen := fun e => by
          have e2 : seen.testBit i = true := by rw [e]; exact or_t.mpr (Or.inr hi)
          have e3 := ((nd_t (by omega)).mp hi).2
          rw [e2] at e3; cases e3
        omega
      refine ih _ fr (by omega) hlt f1 (or_t.mpr (Or.inl i1)) (fun v hv hg i hi => ?_) (fun T hT i hi => ?_)
      · rw [f3 i]
        by_cases z : seen.testBit v = true
        · exact Or.inl (i2 v z hg i hi)
        · rcases or_t.mp hv with w | w
          · exact absurd w z
          · rcases hg with g | g
            · subst g; exact absurd i1 z
            · refine Or.inr ⟨v, Nat.zero_le _, ?_, w, g, hi⟩
              rcases Nat.lt_or_ge v n with q | q
              · exact q
              · rw [Nat.testBit_lt_two_pow (Nat.lt_of_lt_of_le hG (Nat.pow_le_pow_right (by decide) q))] at g; cases g
      · have hs1 := i3 T hT
        rw [f3 i] at hi
        rcases hi with z | z | ⟨v, _, _, z3, z4, z5⟩
        · rcases or_t.mp z with w | w
          · exact hs1 i (Or.inl w)
          · exact hs1 i (Or.inr ((nd_t (by omega)).mp w).1)
        · exact hs1 i (Or.inr z)
        · exact hT.2.2 v (hs1 v (Or.inr ((nd_t (by omega)).mp z3).1)) z4 i z5
theorem around_n {n : Nat} {B : Nat → Nat} {near : Nat → Int32} (N : NetN n B near) {G k : Nat} (hG : G < 2 ^ n) (hk : k < n) : ∃ r, r < 16384 ∧ f_X9_around (nI G) (nI k) (nI n) near = some (nI r) ∧ IsAr B G k r := by
  have hn := N.1
  have hp := p2n hn
  unfold f_X9_around
  rw [bnd_s, ld_ok _ (nI_in (c := k) (N := 14) (by omega) (by decide)), bnd_s, nI_clamp (by omega), N.2.1 k, nx_bit1 k (by omega)]
  refine l12 N hG hk NN (2 ^ k) (B k) (Nat.lt_of_le_of_lt (Nat.sub_le _ _) (by decide)) (Nat.pow_lt_pow_right (by decide) hk) (N.2.2.1 k) (Nat.testBit_two_pow_self) (fun v hv _ i hi => ?_) (fun T hT i hi => ?_)
  · rw [Nat.testBit_two_pow, decide_eq_true_iff] at hv
    subst hv; exact hi
  · rcases hi with z | z
    · rw [Nat.testBit_two_pow, decide_eq_true_iff] at z
      subst z; exact hT.1
    · exact hT.2.1 i z
theorem arN_ar {n : Nat} {B : Nat → Nat} {near : Nat → Int32} (N : NetN n B near) {G k : Nat} (hG : G < 2 ^ n) (hk : k < n) : arN near (nI n) G k < 16384 ∧ f_X9_around (nI G) (nI k) (nI n) near = some (nI (arN near (nI n) G k)) ∧ IsAr B G k (arN near (nI n) G k) := by
  obtain ⟨r, h1, h2, h3⟩ := around_n N hG hk
  have e : arN near (nI n) G k = r := by
    unfold arN
    rw [h2]
    exact nI_clamp (by omega)
  rw [e]
  exact ⟨h1, h2, h3⟩
theorem arS_n {n : Nat} {B : Nat → Nat} {near : Nat → Int32} (N : NetN n B near) : ArS n B (arN near (nI n)) := by
  have hp := p2n N.1
  have a1 : ∀ G k i, G < 2 ^ n → k < n → (arN near (nI n) G k).testBit i = true → i < n ∧ i ≠ k ∧ G.testBit i = false := by
    intro G k i hG hk hi
    obtain ⟨_, _, S, hS, c, m, e⟩ := arN_ar N hG hk
    obtain ⟨b1, b2, b3⟩ := (e i).mp hi
    have hc : Cl B G k (2 ^ n - 1) := by
      refine ⟨by rw [tb_all]; exact decide_eq_true hk, fun j hj => ?_, fun v _ _ j hj => ?_⟩
      · rw [tb_all]
        refine decide_eq_true ?_
        rcases Nat.lt_or_ge j n with q | q
        · exact q
        · rw [Nat.testBit_lt_two_pow (Nat.lt_of_lt_of_le (N.2.2.1 k) (Nat.pow_le_pow_right (by decide) q))] at hj; cases hj
      · rw [tb_all]
        refine decide_eq_true ?_
        rcases Nat.lt_or_ge j n with q | q
        · exact q
        · rw [Nat.testBit_lt_two_pow (Nat.lt_of_lt_of_le (N.2.2.1 v) (Nat.pow_le_pow_right (by decide) q))] at hj; cases hj
    have := m _ hc i b1
    rw [tb_all, decide_eq_true_iff] at this
    exact ⟨this, b3, b2⟩
  refine ⟨a1, fun G k i hG hk gk hi => ?_, fun G v k i hG hv hk gv kv => ?_, fun G k i hG hk hb gi => ?_⟩
  · obtain ⟨b1, b2, b3⟩ := a1 G k i hG hk hi
    exact ar_symm N.2.2.2.2.2 (arN_ar N hG hk).2.2 (arN_ar N hG b1).2.2 gk b3 hi
  · exact ar_gone (arN_ar N hG hk).2.2 (arN_ar N hG hv).2.2 (arN_ar N (lt2n hG hv) hk).2.2 gv kv i
  · obtain ⟨_, _, S, hS, c, m, e⟩ := arN_ar N hG hk
    refine (e i).mpr ⟨c.2.1 i hb, gi, fun z => ?_⟩
    subst z
    rw [N.2.2.2.2.1 i] at hb; cases hb
