/-- open, the first k knots settled -/
def opK (q : Nat) (fo : Nat → Int32) (ch : Nat → Nat) (k j t : Nat) : Bool := opF q (wF q fo) j t && (decide (k ≤ j) || decide (t = ch j))
def up1 (ch : Nat → Nat) (k s : Nat) : Nat → Nat := fun j => if j = k then s else ch j
def Gd (V : Va) (D : Int) : Prop := ∃ C M, V = some (C, D, M)
theorem vAdd_g {x y : Va} {D : Int} (h : Gd (vAdd x y) D) : Gd x D ∨ Gd y D := by
  obtain ⟨C, M, h⟩ := h
  rcases x with _ | ⟨c, b, m⟩
  · exact Or.inr ⟨C, M, h⟩
  rcases y with _ | ⟨d, e, k⟩
  · exact Or.inl ⟨C, M, h⟩
  rw [vAdd_ss] at h
  by_cases c1 : b < e
  · rw [if_pos c1] at h; cases h; exact Or.inr ⟨_, _, rfl⟩
  · rw [if_neg c1] at h
    by_cases c2 : e < b
    · rw [if_pos c2] at h; cases h; exact Or.inl ⟨_, _, rfl⟩
    · rw [if_neg c2] at h; cases h; exact Or.inl ⟨_, _, rfl⟩
theorem v4_g {f : Nat → Va} {D : Int} (h : Gd (v4 f) D) : ∃ s, s < 4 ∧ Gd (f s) D := by
  unfold v4 at h
  rcases vAdd_g h with h | h
  · rcases vAdd_g h with h | h
    · exact ⟨0, by omega, h⟩
    · exact ⟨1, by omega, h⟩
  · rcases vAdd_g h with h | h
    · exact ⟨2, by omega, h⟩
    · exact ⟨3, by omega, h⟩
noncomputable def selF (f : Nat → Va) (D : Int) : Nat := @ite _ (Gd (f 0) D) (Classical.propDecidable _) 0 (@ite _ (Gd (f 1) D) (Classical.propDecidable _) 1 (@ite _ (Gd (f 2) D) (Classical.propDecidable _) 2 3))
theorem selF_t {f : Nat → Va} {D : Int} (h : ∃ s, s < 4 ∧ Gd (f s) D) : selF f D < 4 ∧ Gd (f (selF f D)) D ∧ ∀ t, t < selF f D → ¬Gd (f t) D := by
  unfold selF
  by_cases h0 : Gd (f 0) D
  · rw [if_pos h0]; exact ⟨by omega, h0, fun t ht => by omega⟩
  · rw [if_neg h0]
    by_cases h1 : Gd (f 1) D
    · rw [if_pos h1]
      refine ⟨by omega, h1, fun t ht => ?_⟩
      rw [show t = 0 by omega]; exact h0
    · rw [if_neg h1]
      by_cases h2 : Gd (f 2) D
      · rw [if_pos h2]
        refine ⟨by omega, h2, fun t ht => ?_⟩
        rcases (by omega : t = 0 ∨ t = 1) with e | e <;> rw [e]
        · exact h0
        · exact h1
      · rw [if_neg h2]
        obtain ⟨s, s1, s2⟩ := h
        have e3 : s = 3 := by
          rcases (by omega : s = 0 ∨ s = 1 ∨ s = 2 ∨ s = 3) with e | e | e | e
          · rw [e] at s2; exact absurd s2 h0
          · rw [e] at s2; exact absurd s2 h1
          · rw [e] at s2; exact absurd s2 h2
          · exact e
        rw [e3] at s2
        refine ⟨by omega, s2, fun t ht => ?_⟩
        rcases (by omega : t = 0 ∨ t = 1 ∨ t = 2) with e | e | e <;> rw [e]
        · exact h0
        · exact h1
        · exact h2
theorem way_K {n q : Nat} {B : Nat → Nat} {fo mn : Nat → Int32} {ch : Nat → Nat} {k : Nat} (hk : k < n) (s : Nat) (a : As) : Way n B (opK q fo (up1 ch k s) (k + 1)) (barF mn) a ↔ Way n B (opK q fo ch k) (barF mn) a ∧ a k = s := by
  unfold Way opK up1
  constructor
  · rintro ⟨h1, h2⟩
    have hks : a k = s := by
      have := h1 k hk
      rw [Bool.and_eq_true, if_pos rfl, decide_eq_false (by omega), Bool.false_or, decide_eq_true_eq] at this
      exact this.2
    refine ⟨⟨fun j hj => ?_, h2⟩, hks⟩
    have := h1 j hj
    rw [Bool.and_eq_true] at this ⊢
    refine ⟨this.1, ?_⟩
    by_cases e : j = k
    · rw [e, decide_eq_true (Nat.le_refl k), Bool.true_or]
    · have h3 := this.2
      rw [if_neg e, Bool.or_eq_true, decide_eq_true_eq, decide_eq_true_eq] at h3
      rw [Bool.or_eq_true, decide_eq_true_eq, decide_eq_true_eq]
      rcases h3 with z | z
      · exact Or.inl (by omega)
      · exact Or.inr z
  · rintro ⟨⟨h1, h2⟩, hks⟩
    refine ⟨fun j hj => ?_, h2⟩
    have := h1 j hj
    rw [Bool.and_eq_true] at this ⊢
    refine ⟨this.1, ?_⟩
    by_cases e : j = k
    · rw [if_pos e, e, decide_eq_true hks, Bool.or_true]
    · have h3 := this.2
      rw [Bool.or_eq_true, decide_eq_true_eq, decide_eq_true_eq] at h3
      rw [if_neg e, Bool.or_eq_true, decide_eq_true_eq, decide_eq_true_eq]
      rcases h3 with z | z
      · exact Or.inl (by omega)
      · exact Or.inr z
theorem ALL_split {n q : Nat} {B : Nat → Nat} {fo wt ed fa pf mn : Nat → Int32} {sg : Int} {ch : Nat → Nat} {k : Nat} (hk : k < n) : ALL n B (opK q fo ch k) wt ed fa pf mn sg = v4 (fun s => ALL n B (opK q fo (up1 ch k s) (k + 1)) wt ed fa pf mn sg) := by
  unfold ALL
  rw [← Sm_v4]
  refine Sm_o n _ fun b hb => ?_
  have h4 : b k < 4 := hb.2 k hk rfl
  rw [v4_d (s := b k) h4 (fun t _ ht => vC_f fun z => ht ((way_K hk t b).mp z).2.symm)]
  refine vC_c ?_ rfl
  rw [way_K hk]
  exact ⟨fun h => ⟨h, rfl⟩, fun h => h.1⟩
theorem SUM_abs {n : Nat} (hn : n ≤ 14) {B : Nat → Nat} {wt ed fa pf : Nat → Int32} (L : LwB wt ed fa pf) (a : As) : (SUM n B wt ed fa pf a).natAbs ≤ 2100000 := by
  have : (SUM n B wt ed fa pf a).natAbs ≤ n * 150000 := by
    refine si_abs n fun k hk => ?_
    have e1 : (wK wt fa k (a k)).natAbs ≤ 1000 * 10 := mul_abs (L.1 k) (L.2.2.1 _)
    have e2 : (si k (wJ B ed pf a k)).natAbs ≤ k * 10000 := by
      refine si_abs k fun j hj => ?_
      unfold wJ
      split
      · exact mul_abs (L.2.1 _) (L.2.2.2 _)
      · exact Nat.zero_le _
    omega
  omega
theorem ALL_B {n : Nat} (hn : n ≤ 14) {B : Nat → Nat} {wt ed fa pf mn : Nat → Int32} (L : LwB wt ed fa pf) {z : Int} (hz : z.natAbs ≤ 1) (op : Nat → Nat → Bool) : vB (4 ^ 14) 2100000 (ALL n B op wt ed fa pf mn z) := by
  have h := vB_Sm (S := fun _ => true) (w := 1) (β := 2100000) (F := fun a => vC (Way n B op (barF mn) a) (z * SUM n B wt ed fa pf a)) (fun a => vB_C _ (by
    have := mul_abs hz (SUM_abs hn (B := B) L a)
    omega)) n (fun _ => 0)
  refine vB_le h ?_ (Nat.le_refl _)
  rw [Nat.mul_one]
  have := cS_le (fun _ => true) n
  exact Nat.pow_le_pow_right (by decide) (by omega)
/-- the first best way, knot by knot -/
noncomputable def CH (n q : Nat) (B : Nat → Nat) (fo wt ed fa pf mn : Nat → Int32) (sg D : Int) : Nat → Nat → Nat
  | 0 => fun _ => 0
  | k + 1 => up1 (CH n q B fo wt ed fa pf mn sg D k) k (selF (fun s => ALL n B (opK q fo (up1 (CH n q B fo wt ed fa pf mn sg D k) k s) (k + 1)) wt ed fa pf mn sg) D)
theorem op_open {n q : Nat} {B : Nat → Nat} {fo wt ed fa pf mn : Nat → Int32} {sg D : Int} {ch : Nat → Nat} {k s : Nat} (hk : k < n) (h : Gd (ALL n B (opK q fo (up1 ch k s) (k + 1)) wt ed fa pf mn sg) D) : opF q (wF q fo) k s = true := by
  by_cases c : opF q (wF q fo) k s = true
  · exact c
  · exfalso
    obtain ⟨C, M, h⟩ := h
    have e : ALL n B (opK q fo (up1 ch k s) (k + 1)) wt ed fa pf mn sg = Sm (fun _ => true) n (fun _ => va0) (fun _ => 0) := by
      unfold ALL
      refine Sm_c (fun a => vC_f fun z => ?_) _ _
      have := z.1 k hk
      unfold opK up1 at this
      rw [Bool.and_eq_true, if_pos rfl, decide_eq_false (by omega), Bool.false_or, decide_eq_true_eq] at this
      rw [this.2] at this
      exact c this.1
    have e0 : ∀ m a, Sm (fun _ => true) m (fun _ => va0) a = va0 := by
      intro m
      induction m with
      | zero => intro a; rfl
      | succ m ih =>
        intro a
        rw [Sm, if_pos rfl, v4_c (g := fun _ => va0) fun s _ => ih _]
        rfl
    rw [e, e0] at h
    cases h
/-- each step of the choice is good -/
theorem CH_g {n q : Nat} {B : Nat → Nat} {fo wt ed fa pf mn : Nat → Int32} {sg D : Int} (h0 : Gd (ALL n B (opK q fo (fun _ => 0) 0) wt ed fa pf mn sg) D) : ∀ k, k ≤ n → Gd (ALL n B (opK q fo (CH n q B fo wt ed fa pf mn sg D k) k) wt ed fa pf mn sg) D ∧ ∀ j, j < k → opF q (wF q fo) j (CH n q B fo wt ed fa pf mn sg D k j) = true ∧ CH n q B fo wt ed fa pf mn sg D k j < 4 := by
  intro k
  induction k with
  | zero => intro _; exact ⟨h0, fun j hj => by omega⟩
  | succ k ih =>
    intro hk
    obtain ⟨g1, g2⟩ := ih (by omega)
    rw [ALL_split (show k < n by omega)] at g1
    obtain ⟨s1, s2, s3⟩ := selF_t (v4_g g1)
    refine ⟨s2, fun j hj => ?_⟩
    show opF q (wF q fo) j (if j = k then _ else _) = true ∧ (if j = k then _ else _) < 4
    by_cases e : j = k
    · rw [if_pos e, e]
      exact ⟨op_open (show k < n by omega) s2, s1⟩
    · rw [if_neg e]; exact g2 j (by omega)
/-- THE REFERENCE'S CHOICE -/
theorem ref60 {n q : Nat} (hn : n ≤ 14) {B : Nat → Nat} {near0 bag up wt ed fa pf fo mn : Nat → Int32} {tb tq a1 : Int32} {sg D : Int} (F : FoA q tq fo) (L : LwB wt ed fa pf) (hs : Sg a1 sg) (hD : D.natAbs ≤ 29400000) (hask : ∀ fx op, MayB n tq fo fx op → ∀ ac ab am st tc tbs tm, ∃ c' b' m' r, f_X9_ask a1 (nI n) tb tq ac ab am wt near0 ed bag up fa pf fo mn fx st tc tbs tm = some (c', b', m', r) ∧ Cel sg c' b' m' (ALL n B op wt ed fa pf mn sg) ∧ vB (4 ^ 14) 29400000 (ALL n B op wt ed fa pf mn sg)) (a2 : Int32) {ch : Nat → Nat} {k S : Nat} (hk : k < n) (hch : ∀ j, j < k → ch j < 4) (hS4 : S < 4) (hSg : Gd (ALL n B (opK q fo (up1 ch k S) (k + 1)) wt ed fa pf mn sg) D) (hSn : ∀ t, t < S → ¬Gd (ALL n B (opK q fo (up1 ch k t) (k + 1)) wt ed fa pf mn sg) D) (kk : Int64 → Int32 → Int64 → Int64 → Int64 → (Nat → Int32) → (Nat → Int32) → (Nat → Int64) → (Nat → Int64) → (Nat → Int64) → Option (Int32 × Int64 × Int64 × Int64 × (Nat → Int32) × (Nat → Int32) × (Nat → Int64) × (Nat → Int64) × (Nat → Int64))) : ∀ f s ac ab am fx st tc tbs tm, s ≤ S → S - s + 1 < f → (∀ j, j < k → fx j = nI (ch j)) → (∀ j, k < j → j < 14 → fx j = -1) → ∃ ac' ab' am' fx' st' tc' tbs' tm', L_X9_choice_60 a1 a2 (nI n) tb tq wt near0 ed bag up fa pf fo mn kk f (Int64.ofInt (sg * D)) (nI k) 0 (nI s) ac ab am fx st tc tbs tm = kk (Int64.ofInt (sg * D)) (nI (k + 1)) ac' ab' am' fx' st' tc' tbs' tm' ∧ fx' k = nI S ∧ ∀ j, j ≠ k → fx' j = fx j := by
  have F' := F
  obtain ⟨rfl, q1, q4, _⟩ := F
  have hSq : S < q := by
    have := op_open hk hSg
    unfold opF at this
    rw [Bool.and_eq_true, decide_eq_true_eq] at this
    exact this.1
  have hsg : sg = 1 ∨ sg = -1 := by
    rcases hs with ⟨_, e⟩ | ⟨_, e⟩
    · exact Or.inr e
    · exact Or.inl e
  intro f
  induction f with
  | zero => intro s ac ab am fx st tc tbs tm h1 h2; omega
  | succ f ih =>
    intro s ac ab am fx st tc tbs tm h1 h2 hf1 hf2
    have hmay : MayB n (nI q) fo (upd fx k (nI s)) (opK q fo (up1 ch k s) (k + 1)) := by
      intro j t hj ht
      have eK : opK q fo (up1 ch k s) (k + 1) j t = (opF q (wF q fo) j t && (decide (k + 1 ≤ j) || decide (t = if j = k then s else ch j))) := rfl
      rw [eK]
      rcases Nat.lt_trichotomy j k with c | c | c
      · rw [decide_eq_false (show ¬k + 1 ≤ j by omega), Bool.false_or, if_neg (show ¬j = k by omega)]
        exact (may_n F' (by omega) ht).2 (ch j) (hch j c) (by rw [up_n (by omega)]; exact hf1 j c)
      · subst c
        rw [decide_eq_false (show ¬j + 1 ≤ j by omega), Bool.false_or, if_pos rfl]
        exact (may_n F' (by omega) ht).2 s (by omega) up_e
      · rw [decide_eq_true (show k + 1 ≤ j by omega), Bool.true_or, Bool.and_true]
        exact (may_n F' (by omega) ht).1 (by rw [up_n (by omega)]; exact hf2 j c (by omega))
    obtain ⟨c', b', m', r, r1, r2, r3⟩ := hask (upd fx k (nI s)) _ hmay ac ab am st tc tbs tm
    rw [L_X9_choice_60, if_neg (nI_ge (show s < q by omega) (by omega)), if_pos rfl, sI_ok _ (in14 (by omega)), cl14 (by omega), cal_e r1]
    have go : s < S → ∃ ac' ab' am' fx' st' tc' tbs' tm', L_X9_choice_60 a1 a2 (nI n) tb (nI q) wt near0 ed bag up fa pf fo mn kk f (Int64.ofInt (sg * D)) (nI k) 0 (nI (s + 1)) c' b' m' (upd fx k (nI s)) r.1 r.2.1 r.2.2.1 r.2.2.2 = kk (Int64.ofInt (sg * D)) (nI (k + 1)) ac' ab' am' fx' st' tc' tbs' tm' ∧ fx' k = nI S ∧ ∀ j, j ≠ k → fx' j = fx j := by
      intro hlt
      obtain ⟨x1, x2, x3, x4, x5, x6, x7, x8, y1, y2, y3⟩ := ih (s + 1) c' b' m' (upd fx k (nI s)) r.1 r.2.1 r.2.2.1 r.2.2.2 (by omega) (by omega) (fun j hj => by rw [up_n (by omega)]; exact hf1 j hj) (fun j hj1 hj2 => by rw [up_n (by omega)]; exact hf2 j hj1 hj2)
      exact ⟨x1, x2, x3, x4, x5, x6, x7, x8, y1, y2, fun j hj => by rw [y3 j hj, up_n hj]⟩
    obtain ⟨V, hV⟩ : ∃ V, V = ALL n B (opK q fo (up1 ch k s) (k + 1)) wt ed fa pf mn sg := ⟨_, rfl⟩
    have hSg' := hSg
    have hSn' := hSn s
    rw [← hV] at r2 r3 hSn'
    rcases V with _ | ⟨C, X, M⟩
    · have e0 := r2.1 rfl
      have hlt : s < S := by
        rcases Nat.lt_or_ge s S with z | z
        · exact z
        · have : s = S := by omega
          subst this
          rw [← hV] at hSg
          obtain ⟨_, _, z⟩ := hSg
          cases z
      dsimp only
      rw [e0, if_pos (by decide), bnd_s, bnd_s, nI_1]
      rw [e0] at go
      exact go hlt
    · obtain ⟨b1, b2, b3⟩ := r2.2 C X M rfl
      obtain ⟨d1, d2, d3, d4, d5⟩ := r3 C X M rfl
      dsimp only
      have hX : (sg * X).natAbs ≤ 29400000 := by rcases hsg with e | e <;> subst e <;> omega
      have hDD : (sg * D).natAbs ≤ 29400000 := by rcases hsg with e | e <;> subst e <;> omega
      rw [if_neg (by rw [b1, l_0, lg_le (by omega) (by omega)]; omega)]
      by_cases e : X = D
      · have es : s = S := by
          rcases Nat.lt_or_ge s S with z | z
          · exact absurd ⟨C, M, by rw [e]⟩ (hSn' z)
          · omega
        have f1 : ∃ f', f = f' + 1 := by cases f with
          | zero => omega
          | succ f' => exact ⟨f', rfl⟩
        obtain ⟨f', rfl⟩ := f1
        rw [if_pos (by rw [b2, e, lg_0 (by omega) (by omega)]), bnd_s, bnd_s, nI_1, L_X9_choice_60]
        refine ⟨c', b', m', upd fx k (nI s), r.1, r.2.1, r.2.2.1, r.2.2.2, ?_, by rw [up_e, es], fun j hj => up_n hj⟩
        by_cases w : nI q ≤ nI (s + 1)
        · rw [if_pos w, bnd_s, nI_1]
        · rw [if_neg w, if_neg n10, bnd_s, nI_1]
      · have hlt : s < S := by
          rcases Nat.lt_or_ge s S with z | z
          · exact z
          · have : s = S := by omega
            subst this
            rw [← hV] at hSg
            obtain ⟨_, _, z⟩ := hSg
            cases z
            exact absurd rfl e
        rw [if_neg (by
          rw [b2, lg_0 (by omega) (by omega)]
          intro z
          apply e
          rcases hsg with e1 | e1 <;> subst e1 <;> omega), bnd_s, bnd_s, nI_1]
        exact go hlt
theorem ref48 {n q : Nat} (hn : n ≤ 14) {B : Nat → Nat} {near0 bag up wt ed fa pf fo mn : Nat → Int32} {tb tq a1 : Int32} {sg D : Int} (F : FoA q tq fo) (L : LwB wt ed fa pf) (hs : Sg a1 sg) (hD : D.natAbs ≤ 29400000) (hask : ∀ fx op, MayB n tq fo fx op → ∀ ac ab am st tc tbs tm, ∃ c' b' m' r, f_X9_ask a1 (nI n) tb tq ac ab am wt near0 ed bag up fa pf fo mn fx st tc tbs tm = some (c', b', m', r) ∧ Cel sg c' b' m' (ALL n B op wt ed fa pf mn sg) ∧ vB (4 ^ 14) 29400000 (ALL n B op wt ed fa pf mn sg)) (h0 : Gd (ALL n B (opK q fo (fun _ => 0) 0) wt ed fa pf mn sg) D) {kt : Nat} (hkt : kt < n) : ∀ f k ac ab am fx st tc tbs tm, k ≤ kt + 1 → kt + 1 - k < f → (∀ j, j < k → fx j = nI (CH n q B fo wt ed fa pf mn sg D k j)) → (∀ j, k ≤ j → j < 14 → fx j = -1) → ∃ r, L_X9_choice_48 a1 (nI kt) (nI n) tb tq wt near0 ed bag up fa pf fo mn f (Int64.ofInt (sg * D)) (nI k) ac ab am fx st tc tbs tm = some (nI (CH n q B fo wt ed fa pf mn sg D (kt + 1) kt), r) := by
  intro f
  induction f with
  | zero => intro k ac ab am fx st tc tbs tm h1 h2; omega
  | succ f ih =>
    intro k ac ab am fx st tc tbs tm h1 h2 hf1 hf2
    rw [L_X9_choice_48]
    rcases Nat.lt_or_ge k (kt + 1) with c | c
    · obtain ⟨g1, g2⟩ := CH_g h0 k (by omega)
      rw [ALL_split (show k < n by omega)] at g1
      obtain ⟨s1, s2, s3⟩ := selF_t (v4_g g1)
      obtain ⟨x1, x2, x3, x4, x5, x6, x7, x8, y1, y2, y3⟩ := ref60 hn F L hs hD hask (nI kt) (show k < n by omega) (fun j hj => (g2 j hj).2) s1 s2 s3 (fun y0 y1 y2 y3 y4 y5 y6 y7 y8 y9 => L_X9_choice_48 a1 (nI kt) (nI n) tb tq wt near0 ed bag up fa pf fo mn f y0 y1 y2 y3 y4 y5 y6 y7 y8 y9) NN 0 ac ab am fx st tc tbs tm (Nat.zero_le _) (by show _ < 32768; omega) hf1 (fun j hj1 hj2 => hf2 j (by omega) hj2)
      obtain ⟨r, r1⟩ := ih (k + 1) x1 x2 x3 x4 x5 x6 x7 x8 (by omega) (by omega) (fun j hj => by
        show x4 j = nI (if j = k then _ else _)
        by_cases e : j = k
        · rw [if_pos e, e]; exact y2
        · rw [if_neg e, y3 j e]; exact hf1 j (by omega)) (fun j hj1 hj2 => by rw [y3 j (by omega)]; exact hf2 j (by omega) hj2)
      rw [if_neg (nI_nlt (by omega) (by omega)), bnd_s, bnd_s]
      exact ⟨r, y1.trans r1⟩
    · have ek : k = kt + 1 := by omega
      subst ek
      rw [if_pos (nI_lt (by omega) (by omega)), ld_ok _ (in14 (by omega)), cl14 (by omega), hf1 kt (by omega)]
      exact ⟨_, rfl⟩
/-- the class's open sets with the first k knots settled -/
def wK2 (q : Nat) (fo : Nat → Int32) (ch : Nat → Nat) (k j : Nat) : Nat := if j < k then 2 ^ ch j else wF q fo j
theorem opF_K {q : Nat} {fo : Nat → Int32} {ch : Nat → Nat} {k : Nat} (h : ∀ j, j < k → opF q (wF q fo) j (ch j) = true) : opF q (wK2 q fo ch k) = opK q fo ch k := by
  funext j t
  have e1 : opF q (wK2 q fo ch k) j t = (decide (t < q) && (if j < k then 2 ^ ch j else wF q fo j).testBit t) := rfl
  have e2 : opK q fo ch k j t = ((decide (t < q) && (wF q fo j).testBit t) && (decide (k ≤ j) || decide (t = ch j))) := rfl
  rw [e1, e2]
  by_cases c : j < k
  · have hj := h j c
    unfold opF at hj
    rw [Bool.and_eq_true] at hj
    rw [if_pos c, decide_eq_false (show ¬k ≤ j by omega), Bool.false_or, Nat.testBit_two_pow]
    by_cases e : t = ch j
    · rw [e, hj.1, hj.2, decide_eq_true rfl]
      rfl
    · rw [decide_eq_false (show ¬ch j = t from fun z => e z.symm), decide_eq_false e, Bool.and_false, Bool.and_false]
  · rw [if_neg c, decide_eq_true (show k ≤ j by omega), Bool.true_or, Bool.and_true]
theorem wK2_lt {q : Nat} (hq : q ≤ 4) {fo : Nat → Int32} {ch : Nat → Nat} {k j : Nat} (h : j < k → ch j < 4) : wK2 q fo ch k j < 16 := by
  unfold wK2
  by_cases c : j < k
  · rw [if_pos c]
    exact Nat.pow_lt_pow_right (n := 4) (by decide) (h c)
  · rw [if_neg c]; exact wF_lt hq fo j
theorem wK2_u {q : Nat} {fo : Nat → Int32} {ch : Nat → Nat} {k s j : Nat} (h : j ≠ k) : wK2 q fo (up1 ch k s) (k + 1) j = wK2 q fo ch k j := by
  unfold wK2 up1
  by_cases c : j < k
  · rw [if_pos (by omega), if_pos c, if_neg h]
  · rw [if_neg (by omega), if_neg c]
theorem wK2_s {q : Nat} {fo : Nat → Int32} {ch : Nat → Nat} {k s : Nat} : wK2 q fo (up1 ch k s) (k + 1) k = 2 ^ s := by
  unfold wK2 up1
  rw [if_pos (by omega), if_pos rfl]
theorem shr_n : ∀ c, c < 16 → ∀ s, s < 4 → (nI c >>> (nI s &&& 31) = 1 ↔ c / 2 ^ s = 1) := by decide +kernel
theorem top_n : ∀ c, c < 16 → ∀ s, s < 4 → c / 2 ^ s = 1 → ∀ t, t < 4 → c.testBit t = true → t ≤ s := by decide +kernel
theorem lst_n : ∀ c, c < 16 → ∀ s, s < 4 → c.testBit s = true → (∀ t, t < 4 → c.testBit t = true → t ≤ s) → c / 2 ^ s = 1 := by decide +kernel
/-- what a tally keeps between sweeps -/
def SI (n q : Nat) (B O kn us : Nat → Nat) (wt ed fa pf mn : Nat → Int32) (z : Int) (w : Nat → Nat) (X : Nat) (ost ocn str su co : Nat → Int32) : Prop := X < 2 ^ n ∧ ∃ opO : Nat → Nat → Bool, (∀ j, j < n → X.testBit j = false → opF q w j = opO j) ∧ OpA n opO ost ocn ∧ ∀ j, j < n → TV n B O kn us opO wt ed fa pf mn z j str su co
theorem settle_n {n q : Nat} {B kn pl O us : Nat → Nat} {near0 : Nat → Int32} (N : NetN n B near0) (hq : q ≤ 4) (P : PlD n B kn pl O us) {knots oth oc sc usr fe fc : Nat → Int32} (A : PlA n kn O us knots oth oc sc usr fe fc) {fo wt ed fa pf mn : Nat → Int32} (L : LwB wt ed fa pf) (Y : Sy n B ed pf mn) {zs : Int32} {sg : Int} (hz : sg.natAbs ≤ 1) (hzs : zs = Int32.ofInt sg) {D : Int} (hD : D.natAbs ≤ 29400000) {ch : Nat → Nat} {k S : Nat} (hk : k < n) (hch : ∀ j, j < k → opF q (wF q fo) j (ch j) = true ∧ ch j < 4) (hS4 : S < 4) (hSg : Gd (ALL n B (opK q fo (up1 ch k S) (k + 1)) wt ed fa pf mn sg) D) (hSn : ∀ t, t < S → ¬Gd (ALL n B (opK q fo (up1 ch k t) (k + 1)) wt ed fa pf mn sg) D) : ∀ f s sum many ps X op ost ocn g str su co, s ≤ S → S - s < f → (∀ j, j < n → j ≠ k → op j = nI (wK2 q fo ch k j)) → X < 2 ^ n → (∃ opO : Nat → Nat → Bool, (∀ j, j < n → j ≠ k → X.testBit j = false → opF q (wK2 q fo ch k) j = opO j) ∧ OpA n opO ost ocn ∧ ∀ j, j < n → TV n B O kn us opO wt ed fa pf mn sg j str su co) → ∃ sum' many' ps' X' op' ost' ocn' g' str' su' co', L_X7_settle_9 (nI k) zs (Int32.ofInt D) (nI n) wt near0 ed (nI q) fa pf mn (nI n) knots oth oc sc usr fe fc f (nI (wF q fo k)) (nI s) sum many (nI X) ps 0 op ost ocn g str su co = some (nI S, sum', many', nI X', ps', 0, op', ost', ocn', g', str', su', co') ∧ (∀ j, j < n → op' j = nI (wK2 q fo (up1 ch k S) (k + 1) j)) ∧ SI n q B O kn us wt ed fa pf mn sg (wK2 q fo (up1 ch k S) (k + 1)) X' ost' ocn' str' su' co' := by
  have hn := N.1
  have hp := p2n hn
  have wlt := wF_lt hq fo k
  have opS := op_open hk hSg
  have hSq : S < q ∧ (wF q fo k).testBit S = true := by
    unfold opF at opS
    rw [Bool.and_eq_true, decide_eq_true_eq] at opS
    exact opS
  intro f
  induction f with
  | zero => intro s sum many ps X op ost ocn g str su co h1 h2; omega
  | succ f ih =>
    intro s sum many ps X op ost ocn g str su co h1 h2 hop hX hO
    obtain ⟨opO, o1, o2, o3⟩ := hO
    rw [L_X7_settle_9, if_neg (nI_ge (show s < q by omega) (by omega))]
    by_cases d : (wF q fo k).testBit s = true
    · have hX' : X ||| 2 ^ k < 2 ^ n := lt2n hX hk
      have hopen : opF q (wF q fo) k s = true := by
        unfold opF
        rw [d, decide_eq_true (show s < q by omega)]; rfl
      have hch' : ∀ j, j < k + 1 → opF q (wF q fo) j (up1 ch k s j) = true := by
        intro j hj
        show opF q (wF q fo) j (if j = k then s else ch j) = true
        by_cases e : j = k
        · rw [if_pos e, e]; exact hopen
        · rw [if_neg e]; exact (hch j (by omega)).1
      have hop' : ∀ j, j < n → upd op k (nI (2 ^ s)) j = nI (wK2 q fo (up1 ch k s) (k + 1) j) ∧ wK2 q fo (up1 ch k s) (k + 1) j < 16 := by
        intro j hj
        refine ⟨?_, wK2_lt hq fun hj' => ?_⟩
        · by_cases e : j = k
          · rw [e, up_e, wK2_s]
          · rw [up_n e, wK2_u e]; exact hop j hj e
        · show (if j = k then s else ch j) < 4
          by_cases e : j = k
          · rw [if_pos e]; omega
          · rw [if_neg e]; exact (hch j (by omega)).2
      have o1' : ∀ j, j < n → (X ||| 2 ^ k).testBit j = false → opF q (wK2 q fo (up1 ch k s) (k + 1)) j = opO j := by
        intro j hj hb
        obtain ⟨b1, b2⟩ := or2_f.mp hb
        rw [← o1 j hj (Ne.symm b2) b1]
        funext t
        unfold opF
        rw [wK2_u (Ne.symm b2)]
      rw [cal_e (hasBit_n (by omega) (by omega)), if_pos d, if_neg n10, nx_bit1 s (by omega), sI_ok _ (in14 (by omega)), cl14 (by omega), nx_bit1 k (by omega), nx_or, bnd_s]
      by_cases e : nI (wF q fo k) >>> (nI s &&& 31) = 1
      · have es : s = S := by
          have := top_n _ wlt s (by omega) ((shr_n _ wlt s (by omega)).mp e) S hS4 hSq.2
          omega
        subst es
        rw [if_pos e]
        exact ⟨sum, many, ps, X ||| 2 ^ k, _, ost, ocn, g, str, su, co, rfl, fun j hj => (hop' j hj).1, hX', opO, o1', o2, o3⟩
      · obtain ⟨sum', many', ps', ost', ocn', g', str', su', co', r1, r2, r3, r4⟩ := sweepAgain_n N hq P A hop' L Y hz hzs hX' o1' sum many ps ost ocn g str su co (fun j hj hb => by
          have := o2 j hj
          unfold OpK
          rw [o1' j hj hb]
          exact this) (fun j hj => Or.inr (o3 j hj))
        rw [if_neg e, cal_e r1]
        have hB := ALL_B hn (B := B) (mn := mn) L hz (opF q (wK2 q fo (up1 ch k s) (k + 1)))
        rw [opF_K hch'] at r2 hB
        -- going on with the next state
        have go : s < S → ∃ sum2 many2 ps2 X2 op2 ost2 ocn2 g2 str2 su2 co2, J_X7_settle_84 (nI k) zs (Int32.ofInt D) (nI n) wt near0 ed (nI q) fa pf mn (nI n) knots oth oc sc usr fe fc (fun y0 y1 y2 y3 y4 y5 y6 y7 y8 y9 y10 y11 y12 y13 => L_X7_settle_9 (nI k) zs (Int32.ofInt D) (nI n) wt near0 ed (nI q) fa pf mn (nI n) knots oth oc sc usr fe fc f y0 y1 y2 y3 y4 y5 y6 y7 y8 y9 y10 y11 y12 y13) (nI (wF q fo k)) (nI s) 0 sum' many' 0 ps' 0 (upd op k (nI (2 ^ s))) ost' ocn' g' str' su' co' = some (nI S, sum2, many2, nI X2, ps2, 0, op2, ost2, ocn2, g2, str2, su2, co2) ∧ (∀ j, j < n → op2 j = nI (wK2 q fo (up1 ch k S) (k + 1) j)) ∧ SI n q B O kn us wt ed fa pf mn sg (wK2 q fo (up1 ch k S) (k + 1)) X2 ost2 ocn2 str2 su2 co2 := by
          intro hlt
          unfold J_X7_settle_84
          rw [bnd_s, if_pos (by decide), bnd_s, bnd_s, nI_1]
          exact ih (s + 1) sum' many' ps' 0 (upd op k (nI (2 ^ s))) ost' ocn' g' str' su' co' (by omega) (by omega) (fun j hj e => by rw [up_n e]; exact hop j hj e) (Nat.two_pow_pos n) ⟨opF q (wK2 q fo (up1 ch k s) (k + 1)), fun j hj e _ => by
            funext t
            unfold opF
            rw [wK2_u e], r3, r4⟩
        obtain ⟨V, hV⟩ : ∃ V, V = ALL n B (opK q fo (up1 ch k s) (k + 1)) wt ed fa pf mn sg := ⟨_, rfl⟩
        have hSn' := hSn s
        rw [← hV] at r2 hB hSn'
        have notS : ¬Gd V D → s < S := by
          intro hb
          rcases Nat.lt_or_ge s S with z | z
          · exact z
          · have : s = S := by omega
            subst this
            rw [← hV] at hSg
            exact absurd hSg hb
        rcases V with _ | ⟨C, Z, M⟩
        · have hlt := notS (fun ⟨_, _, z⟩ => by cases z)
          have em := r2.1 rfl
          dsimp only
          subst em
          by_cases w : sum' = Int32.ofInt D
          · rw [if_pos w]; exact go hlt
          · rw [if_neg w]; exact go hlt
        · obtain ⟨b1, b2⟩ := r2.2 C Z M rfl
          obtain ⟨d1, d2, d3, d4, d5⟩ := hB C Z M rfl
          dsimp only
          by_cases w : Z = D
          · have es : s = S := by
              rcases Nat.lt_or_ge s S with y | y
              · exact absurd ⟨C, M, by rw [w]⟩ (hSn' y)
              · omega
            subst es
            rw [if_pos (by rw [b1, w])]
            unfold J_X7_settle_84
            rw [bnd_s, b2, nI_64 (by omega), if_neg (by rw [l_0, lg_ge (by omega) (by omega)]; omega)]
            exact ⟨sum', nI M, ps', 0, upd op k (nI (2 ^ s)), ost', ocn', g', str', su', co', rfl, fun j hj => (hop' j hj).1, Nat.two_pow_pos n, _, fun _ _ _ => rfl, r3, r4⟩
          · have hlt := notS (fun ⟨_, _, z⟩ => by cases z; exact w rfl)
            rw [if_neg (by rw [b1, i_eq (by omega) (by omega)]; exact w)]
            exact go hlt
    · have hlt : s < S := by
        rcases Nat.lt_or_ge s S with z | z
        · exact z
        · have : s = S := by omega
          subst this
          exact absurd hSq.2 d
      rw [cal_e (hasBit_n (by omega) (by omega)), if_neg d, if_pos rfl, bnd_s, nI_1]
      exact ih (s + 1) sum many ps X op ost ocn g str su co (by omega) (by omega) hop hX ⟨opO, o1, o2, o3⟩
theorem way42 {n q : Nat} {B kn pl O us : Nat → Nat} {near0 : Nat → Int32} (N : NetN n B near0) (hq : q ≤ 4) (P : PlD n B kn pl O us) {knots oth oc sc usr fe fc : Nat → Int32} (A : PlA n kn O us knots oth oc sc usr fe fc) {fo wt ed fa pf mn : Nat → Int32} (L : LwB wt ed fa pf) (Y : Sy n B ed pf mn) {zs : Int32} {sg : Int} (hz : sg.natAbs ≤ 1) (hzs : zs = Int32.ofInt sg) {D : Int} (hD : D.natAbs ≤ 29400000) (h0 : Gd (ALL n B (opK q fo (fun _ => 0) 0) wt ed fa pf mn sg) D) {kt : Nat} (hkt : kt < n) (b1 : Int32) (b2 : Int64) : ∀ f k x5 sum many ps X op ost ocn g str su co, k ≤ kt + 1 → kt + 1 - k < f → (k = kt + 1 → x5 = nI (CH n q B fo wt ed fa pf mn sg D (kt + 1) kt)) → (∀ j, j < n → op j = nI (wK2 q fo (CH n q B fo wt ed fa pf mn sg D k) k j)) → SI n q B O kn us wt ed fa pf mn sg (wK2 q fo (CH n q B fo wt ed fa pf mn sg D k) k) X ost ocn str su co → ∃ r, L_X7_stateInWay_42 b1 b2 (nI kt) (nI n) wt near0 ed (nI q) fa pf mn (nI n) knots oth oc sc usr fe fc f x5 (nI k) sum many zs (nI X) ps (Int32.ofInt D) 0 op ost ocn g str su co = some (nI (CH n q B fo wt ed fa pf mn sg D (kt + 1) kt), r) := by
  have hn := N.1
  intro f
  induction f with
  | zero => intro k x5 sum many ps X op ost ocn g str su co h1 h2; omega
  | succ f ih =>
    intro k x5 sum many ps X op ost ocn g str su co h1 h2 h5 hop hS
    rw [L_X7_stateInWay_42]
    rcases Nat.lt_or_ge k (kt + 1) with c | c
    · obtain ⟨g1, g2⟩ := CH_g h0 k (by omega)
      rw [ALL_split (show k < n by omega)] at g1
      obtain ⟨s1, s2, s3⟩ := selF_t (v4_g g1)
      obtain ⟨hX, opO, o1, o2, o3⟩ := hS
      obtain ⟨sum', many', ps', X', op', ost', ocn', g', str', su', co', r1, r2, r3⟩ := settle_n N hq P A L Y hz hzs hD (show k < n by omega) g2 s1 s2 s3 NN 0 sum many ps X op ost ocn g str su co (Nat.zero_le _) (by show _ < 32768; omega) (fun j hj _ => hop j hj) hX ⟨opO, fun j hj _ hb => o1 j hj hb, o2, o3⟩
      have es : f_X7_settle (nI k) sum many zs (nI X) ps (Int32.ofInt D) 0 op (nI n) wt near0 ed (nI q) fa pf mn (nI n) knots oth oc sc usr fe fc ost ocn g str su co = some (nI (selF (fun s => ALL n B (opK q fo (up1 (CH n q B fo wt ed fa pf mn sg D k) k s) (k + 1)) wt ed fa pf mn sg) D), sum', many', nI X', ps', 0, op', ost', ocn', g', str', su', co') := by
        unfold f_X7_settle
        have ek : wK2 q fo (CH n q B fo wt ed fa pf mn sg D k) k k = wF q fo k := if_neg (by omega)
        rw [ld_ok _ (in14 (by omega)), cl14 (by omega), hop k (by omega), ek, bnd_s, bnd_s]
        exact r1
      rw [if_neg (nI_nlt (by omega) (by omega)), cal_e es, bnd_s, bnd_s, nI_1]
      refine ih (k + 1) _ sum' many' ps' X' op' ost' ocn' g' str' su' co' (by omega) (by omega) (fun e => ?_) r2 r3
      have ek : k = kt := by omega
      subst ek
      show _ = nI (if k = k then _ else _)
      rw [if_pos rfl]
    · have ek : k = kt + 1 := by omega
      rw [if_pos (nI_lt (by omega) (by omega)), h5 ek]
      exact ⟨_, rfl⟩
theorem choice_rel {n q : Nat} {B : Nat → Nat} {near0 : Nat → Int32} (N : NetN n B near0) {bs tb tq : Int32} {masks ups bag up fo wt ed fa pf mn : Nat → Int32} (T : BagT n bs tb masks ups bag up) (R : RtA bs ups) (F : FoA q tq fo) (L : LwB wt ed fa pf) (Y : Sy n B ed pf mn) {a1 : Int32} (ha : a1 = 0 ∨ a1 = 1) (a2 : Int32) (ps : Int32) (knots oth oc sc us fe fc places bm : Nat → Int32) (gl ge : Int32) (gn : Nat → Int32) (tsum tmany tsign tch tps taim : Int32) (tbef : Int64) (top ost ocn picks str su co : Nat → Int32) (ac ab am : Int64) (fx st : Nat → Int32) (tc tbs tm : Nat → Int64) : Rel (f_X8_choice a1 a2 (nI n) wt near0 ed bs masks ups tq fa pf mn fo ps knots oth oc sc us fe fc places bm gl ge gn tsum tmany tsign tch tps taim tbef top ost ocn picks str su co) (f_X9_choice a1 a2 (nI n) tb tq ac ab am wt near0 ed bag up fa pf fo mn fx st tc tbs tm) (fun x m => m.1 = x.1) := by
  have hn := N.1
  unfold f_X8_choice f_X9_choice
  rcases has_n hn a2 with z | ⟨kt, k1, rfl, z⟩
  · exact rl (cal_e z) (rr (cal_e (show f_X9_isKnot a2 (nI n) = some 0 from z)) (rl (if_pos rfl) (rr (if_pos rfl) (rel_some rfl))))
  · refine rl (cal_e z) (rr (cal_e (show f_X9_isKnot (nI kt) (nI n) = some 1 from z)) (rl (if_neg n10) (rr (if_neg n10) ?_)))
    rcases ready N T R F L Y with ⟨h1, h2⟩ | ⟨h1, h2, h3, h4⟩
    · exact rl (cal_e h1) (rr (cal_e h2) (rl (if_pos rfl) (rr (if_pos rfl) (rel_some rfl))))
    · refine rl (cal_e h1) (rr (cal_e h2) (rl (if_neg n10) (rr (if_neg n10) ?_)))
      obtain ⟨kn, pl, O, U, knots', oth', oc', sc', us', fe', fc', r1, r2, r3, r4, r5, op', p1, p2, p3, p4⟩ := h3 ps knots oth oc sc us fe fc places bm gl ge gn top
      obtain ⟨fx', f1, f2⟩ := free_n fx
      obtain ⟨sg, hs, hsg, hso⟩ : ∃ sg, Sg a1 sg ∧ (sg = 1 ∨ sg = -1) ∧ f_X8_signOf a1 = some (Int32.ofInt sg) := by
        rcases ha with h | h <;> subst h
        · exact ⟨-1, Or.inl ⟨rfl, rfl⟩, Or.inr rfl, rfl⟩
        · exact ⟨1, Or.inr ⟨by decide, rfl⟩, Or.inl rfl, rfl⟩
      have hz : sg.natAbs ≤ 1 := by omega
      obtain ⟨c', b', m', r, a3, a4, a5⟩ := h4 a1 sg hs fx' _ (may_free hn F f2) ac ab am st tc tbs tm
      obtain ⟨rfl, q1, q4, _⟩ := id F
      obtain ⟨s1, s2, s3, s4, s5, s6, s7, s8, s9, t1, t2, t3, t4⟩ := sweep_n N q4 p2 p3 (w := wF q fo) (op := op') (fun k hk => ⟨p4 k hk, wF_lt q4 fo k⟩) L Y (zs := Int32.ofInt sg) (z := sg) hz rfl tsum tmany tsign tch tps ost ocn picks str su co
      refine rl (cal_e p1) (rr (cal_e f1) (rr (cal_e a3) ?_))
      unfold J_X8_choice_27
      refine rl (cal_e hso) ?_
      have hw0 : wK2 q fo (fun _ => 0) 0 = wF q fo := by
        funext j
        exact if_neg (by omega)
      have hk0 : opF q (wF q fo) = opK q fo (fun _ => 0) 0 := by
        rw [← hw0]
        exact opF_K fun j hj => by omega
      unfold f_X7_stateInWay
      obtain ⟨V, hV⟩ : ∃ V, V = ALL n B (opF q (wF q fo)) wt ed fa pf mn sg := ⟨_, rfl⟩
      have t2' := t2
      have a4' := a4
      have a5' := a5
      rw [← hV] at t2' a4' a5'
      rcases V with _ | ⟨C, D, M⟩
      · have e1 := t2'.1 rfl
        have e2 := a4'.1 rfl
        subst e1
        refine rr (if_pos (by rw [e2]; show lg_cmp 0 0 = 0; decide)) ?_
        have ew : (cal (f_X7_sweep (Int32.ofInt sg) tsum tmany tsign tch tps op' (nI n) wt near0 ed (nI q) fa pf mn (nI n) knots' oth' oc' sc' us' fe' fc' ost ocn picks str su co) fun u1 => if lg_cmp 0 0 < 0 then some ((-1 : Int32), u1.1, u1.2.1, u1.2.2.1, u1.2.2.2.1, u1.2.2.2.2.1, taim, tbef, op', u1.2.2.2.2.2.1, u1.2.2.2.2.2.2.1, u1.2.2.2.2.2.2.2.1, u1.2.2.2.2.2.2.2.2.1, u1.2.2.2.2.2.2.2.2.2.1, u1.2.2.2.2.2.2.2.2.2.2) else if lg_cmp 0 (u1.2.1).toInt64 < 0 then bnd u1.1 fun t_aim_2 => bnd (0 : Int64) fun t_before_3 => bnd (-1 : Int32) fun x5_4 => bnd (0 : Int32) fun x6_5 => L_X7_stateInWay_42 (Int32.ofInt sg) 0 (nI kt) (nI n) wt near0 ed (nI q) fa pf mn (nI n) knots' oth' oc' sc' us' fe' fc' NN x5_4 x6_5 u1.1 u1.2.1 u1.2.2.1 u1.2.2.2.1 u1.2.2.2.2.1 t_aim_2 t_before_3 op' u1.2.2.2.2.2.1 u1.2.2.2.2.2.2.1 u1.2.2.2.2.2.2.2.1 u1.2.2.2.2.2.2.2.2.1 u1.2.2.2.2.2.2.2.2.2.1 u1.2.2.2.2.2.2.2.2.2.2 else some ((-1 : Int32), u1.1, u1.2.1, u1.2.2.1, u1.2.2.2.1, u1.2.2.2.2.1, taim, tbef, op', u1.2.2.2.2.2.1, u1.2.2.2.2.2.2.1, u1.2.2.2.2.2.2.2.1, u1.2.2.2.2.2.2.2.2.1, u1.2.2.2.2.2.2.2.2.2.1, u1.2.2.2.2.2.2.2.2.2.2)) = some ((-1 : Int32), s1, 0, Int32.ofInt sg, 0, s3, taim, tbef, op', s4, s5, s6, s7, s8, s9) := by
          rw [cal_e t1, if_neg (by decide), if_neg (by show ¬lg_cmp 0 (0 : Int32).toInt64 < 0; decide)]
        exact rl (cal_e ew) (rel_some rfl)
      · obtain ⟨e1, e2⟩ := t2'.2 C D M rfl
        obtain ⟨g1, g2, g3⟩ := a4'.2 C D M rfl
        obtain ⟨d1, d2, d3, d4, d5⟩ := a5' C D M rfl
        have hGd : Gd (ALL n B (opK q fo (fun _ => 0) 0) wt ed fa pf mn sg) D := by
          rw [← hk0, ← hV]; exact ⟨C, M, rfl⟩
        obtain ⟨rc, hc⟩ := way42 N q4 p2 p3 L Y hz rfl d5 hGd k1 (Int32.ofInt sg) 0 NN 0 (-1) s1 s2 s3 0 op' s4 s5 s6 s7 s8 s9 (Nat.zero_le _) (by show _ < 32768; omega) (fun e => by omega) (fun j hj => by
          show op' j = nI (wK2 q fo (fun _ => 0) 0 j)
          rw [hw0]; exact p4 j hj) ⟨Nat.two_pow_pos n, opF q (wF q fo), fun j _ _ => by
          show opF q (wK2 q fo (fun _ => 0) 0) j = _
          rw [hw0], t3, t4⟩
        obtain ⟨rr', hr⟩ := ref48 hn F L hs d5 (h4 a1 sg hs) hGd k1 NN 0 c' b' m' fx' r.1 r.2.1 r.2.2.1 r.2.2.2 (Nat.zero_le _) (by show _ < 32768; omega) (fun j hj => by omega) (fun j _ hj => f2 j hj)
        rw [← g2] at hr
        refine rr (if_neg (by rw [g1, l_0, lg_0 (by omega) (by omega)]; omega)) (rr (bnd_s _ _) (rr (bnd_s _ _) (rr hr ?_)))
        have ew : (cal (f_X7_sweep (Int32.ofInt sg) tsum tmany tsign tch tps op' (nI n) wt near0 ed (nI q) fa pf mn (nI n) knots' oth' oc' sc' us' fe' fc' ost ocn picks str su co) fun u1 => if lg_cmp 0 0 < 0 then some ((-1 : Int32), u1.1, u1.2.1, u1.2.2.1, u1.2.2.2.1, u1.2.2.2.2.1, taim, tbef, op', u1.2.2.2.2.2.1, u1.2.2.2.2.2.2.1, u1.2.2.2.2.2.2.2.1, u1.2.2.2.2.2.2.2.2.1, u1.2.2.2.2.2.2.2.2.2.1, u1.2.2.2.2.2.2.2.2.2.2) else if lg_cmp 0 (u1.2.1).toInt64 < 0 then bnd u1.1 fun t_aim_2 => bnd (0 : Int64) fun t_before_3 => bnd (-1 : Int32) fun x5_4 => bnd (0 : Int32) fun x6_5 => L_X7_stateInWay_42 (Int32.ofInt sg) 0 (nI kt) (nI n) wt near0 ed (nI q) fa pf mn (nI n) knots' oth' oc' sc' us' fe' fc' NN x5_4 x6_5 u1.1 u1.2.1 u1.2.2.1 u1.2.2.2.1 u1.2.2.2.2.1 t_aim_2 t_before_3 op' u1.2.2.2.2.2.1 u1.2.2.2.2.2.2.1 u1.2.2.2.2.2.2.2.1 u1.2.2.2.2.2.2.2.2.1 u1.2.2.2.2.2.2.2.2.2.1 u1.2.2.2.2.2.2.2.2.2.2 else some ((-1 : Int32), u1.1, u1.2.1, u1.2.2.1, u1.2.2.2.1, u1.2.2.2.2.1, taim, tbef, op', u1.2.2.2.2.2.1, u1.2.2.2.2.2.2.1, u1.2.2.2.2.2.2.2.1, u1.2.2.2.2.2.2.2.2.1, u1.2.2.2.2.2.2.2.2.2.1, u1.2.2.2.2.2.2.2.2.2.2)) = some (nI (CH n q B fo wt ed fa pf mn sg D (kt + 1) kt), rc) := by
          rw [cal_e t1, if_neg (by decide), if_pos (by
            show lg_cmp 0 s2.toInt64 < 0
            rw [e2, nI_64 (by omega)]
            have h1 := lg_ge (y := 0) (z := (M : Int)) (by omega) (by omega)
            rw [← l_0] at h1
            rw [Int32.lt_iff_toInt_lt]
            have h2 : ¬(0 : Int32) ≤ lg_cmp 0 (Int64.ofInt (M : Int)) := fun z => by have := h1.mp z; omega
            have := nle h2
            exact this), bnd_s, bnd_s, bnd_s, bnd_s]
          rw [← e1] at hc
          exact hc
        exact rl (cal_e ew) (rel_some rfl)
