/-- the class's cells: the best sum, how many ways have it -/
def Ce (s c : Int32) (v : Va) : Prop := (v = none → c = 0) ∧ ∀ C B M, v = some (C, B, M) → s = Int32.ofInt B ∧ c = nI M
theorem Ce_mul {s c s' c' : Int32} {v w : Va} (h : Ce s c v) (g : Ce s' c' w) : Ce (s + s') (c * c') (vMul v w) := by
  rcases v with _ | ⟨C, X, M⟩
  · exact ⟨fun _ => by rw [h.1 rfl]; exact Int32.zero_mul, fun _ _ _ e => by cases e⟩
  rcases w with _ | ⟨D, Y, K⟩
  · exact ⟨fun _ => by rw [g.1 rfl]; exact Int32.mul_zero, fun _ _ _ e => by cases e⟩
  obtain ⟨h1, h2⟩ := h.2 C X M rfl
  obtain ⟨g1, g2⟩ := g.2 D Y K rfl
  refine ⟨(fun e => nomatch e), fun C' B' M' e => ?_⟩
  rw [vMul_ss] at e
  cases e
  rw [h1, h2, g1, g2, nx_mul, ← Int32.ofInt_add]
  exact ⟨rfl, rfl⟩
theorem i_ti {z : Int} (h : z.natAbs ≤ 1073741824) : (Int32.ofInt z).toInt = z := Int32.toInt_ofInt_of_le (by omega) (by omega)
theorem i_le {y z : Int} (hy : y.natAbs ≤ 1073741824) (hz : z.natAbs ≤ 1073741824) : Int32.ofInt y ≤ Int32.ofInt z ↔ y ≤ z := by
  rw [Int32.le_iff_toInt_le, i_ti hy, i_ti hz]
theorem i_eq {y z : Int} (hy : y.natAbs ≤ 1073741824) (hz : z.natAbs ≤ 1073741824) : Int32.ofInt y = Int32.ofInt z ↔ y = z := by
  constructor
  · intro h
    have := congrArg Int32.toInt h
    rw [i_ti hy, i_ti hz] at this
    exact this
  · intro h; rw [h]
theorem nI_nz {m : Nat} (h0 : 0 < m) (h : m ≤ 1073741824) : ¬nI m = 0 := fun z => by
  have := congrArg Int32.toInt z
  rw [nI_toInt (by omega)] at this
  have l0 : (0 : Int32).toInt = 0 := rfl
  omega
theorem Ce_z {s c : Int32} {v : Va} {N β : Nat} (hN : N ≤ 1073741824) (hv : vB N β v) (h : Ce s c v) : c = 0 ↔ v = none := by
  constructor
  · intro z
    rcases v with _ | ⟨C, X, M⟩
    · rfl
    · obtain ⟨h1, h2⟩ := h.2 C X M rfl
      obtain ⟨_, _, b3, b4, _⟩ := hv C X M rfl
      rw [h2] at z
      exact absurd z (nI_nz b3 (by omega))
  · exact h.1
/-- two cells put together, as the class does it -/
theorem Ce_add {bs bc ps pc : Int32} {v w : Va} {N β : Nat} (hN : N ≤ 1073741824) (hβ : β ≤ 1073741824) (hv : vB N β v) (hw : vB N β w) (C : Ce bs bc v) (D : Ce ps pc w) {α : Type} (k : Int32 → Int32 → Option α) : ∃ bs' bc', Ce bs' bc' (vAdd v w) ∧ (if pc = 0 then k bs bc else if bc = 0 then k ps pc else if ps ≤ bs then (if ps = bs then k bs (bc + pc) else k bs bc) else k ps pc) = k bs' bc' := by
  by_cases c1 : pc = 0
  · rw [if_pos c1]
    have := (Ce_z hN hw D).mp c1
    subst this
    rw [show vAdd v none = v from va_0 v]
    exact ⟨bs, bc, C, rfl⟩
  · rw [if_neg c1]
    by_cases c2 : bc = 0
    · rw [if_pos c2]
      have := (Ce_z hN hv C).mp c2
      subst this
      exact ⟨ps, pc, D, rfl⟩
    · rw [if_neg c2]
      rcases v with _ | ⟨c, x, m⟩
      · exact absurd (C.1 rfl) c2
      rcases w with _ | ⟨d, y, k'⟩
      · exact absurd (D.1 rfl) c1
      obtain ⟨h1, h2⟩ := C.2 c x m rfl
      obtain ⟨g1, g2⟩ := D.2 d y k' rfl
      obtain ⟨_, _, _, _, b5⟩ := hv c x m rfl
      obtain ⟨_, _, _, _, d5⟩ := hw d y k' rfl
      rw [vAdd_ss]
      have L := i_le (y := y) (z := x) (by omega) (by omega)
      have E := i_eq (y := y) (z := x) (by omega) (by omega)
      rw [← h1, ← g1] at L E
      by_cases c3 : x < y
      · rw [if_pos c3, if_neg (fun z => by have := L.mp z; omega)]
        exact ⟨ps, pc, ⟨(fun e => nomatch e), (fun _ _ _ e => by cases e; exact ⟨g1, g2⟩)⟩, rfl⟩
      · rw [if_neg c3, if_pos (L.mpr (by omega))]
        by_cases c4 : y < x
        · rw [if_pos c4, if_neg (fun z => by have := E.mp z; omega)]
          exact ⟨bs, bc, ⟨(fun e => nomatch e), (fun _ _ _ e => by cases e; exact ⟨h1, h2⟩)⟩, rfl⟩
        · rw [if_neg c4, if_pos (E.mpr (by omega))]
          refine ⟨bs, bc + pc, ⟨(fun e => nomatch e), fun _ _ _ e => ?_⟩, rfl⟩
          cases e
          rw [h2, g2, nI_add]
          exact ⟨h1, rfl⟩
/-- open states, listed -/
def OpA (n : Nat) (op : Nat → Nat → Bool) (ost ocn : Nat → Int32) : Prop := ∀ k, k < n → ocn k = nI (cS (op k) 4) ∧ ∀ f, f < cS (op k) 4 → ost (4 * k + f) = nI (elt (op k) 4 f)
def asg (op : Nat → Nat → Bool) (p : Nat → Nat) : As := fun k => elt (op k) 4 (p k)
theorem asg_t {op : Nat → Nat → Bool} {p : Nat → Nat} {k : Nat} (h : p k < cS (op k) 4) : asg op p k < 4 ∧ op k (asg op p k) = true := elt_t 4 (p k) h
theorem ps_n {n : Nat} (hn : n ≤ 14) {op : Nat → Nat → Bool} {ost ocn : Nat → Int32} (H : OpA n op ost ocn) {k : Nat} (hk : k < n) {picks : Nat → Int32} {p : Nat → Nat} (h : picks k = nI (p k) ∧ p k < cS (op k) 4) : f_X7_pickedState (nI k) ost picks = some (nI (asg op p k)) := by
  have h4 := cS_le (op k) 4
  unfold f_X7_pickedState
  rw [ld_ok _ (in14 (by omega)), cl14 (by omega), h.1, nx_s4, ld_ok _ (in56 (by omega)), nI_clamp (by omega), (H k hk).2 _ h.2]
  rfl
theorem i32 (x : Int32) : x = Int32.ofInt x.toInt := (Int32.ofInt_toInt x).symm
/-- the edge to the i-th other may be -/
def okB (n : Nat) (B : Nat → Nat) (mn : Nat → Int32) (k m : Nat) (a : As) (i : Nat) : Prop := (B k).testBit (elt (tbF m) n i) = true → barF mn (a k) (a (elt (tbF m) n i)) = false
theorem l_ae {n : Nat} {B : Nat → Nat} {near0 : Nat → Int32} (N : NetN n B near0) {s k m : Nat} (hs : s < 14) (hk : k < n) (zs : Int32) (wt ed fa pf mn : Nat → Int32) {oth oc : Nat → Int32} (hoc : oc s = nI (cS (tbF m) n)) (h4 : cS (tbF m) n ≤ 4) (hoth : ∀ f, f < cS (tbF m) n → oth (4 * s + f) = nI (elt (tbF m) n f)) {op : Nat → Nat → Bool} {ost ocn : Nat → Int32} (H : OpA n op ost ocn) {picks : Nat → Int32} {p : Nat → Nat} (hp : ∀ i, i < n → (m.testBit i = true ∨ i = k) → picks i = nI (p i) ∧ p i < cS (op i) 4) (w0 : Int) (ps0 : Int32) : ∀ f i, i ≤ cS (tbF m) n → cS (tbF m) n - i < f → (∀ j, j < i → okB n B mn k m (asg op p) j) → ∃ u ps', L_X7_addEdges_43 (nI s) (nI k) zs wt near0 ed fa pf mn oth oc ost picks f (nI (asg op p k)) (nI (B k)) (Int32.ofInt (w0 + si i (fun j => wJ B ed pf (asg op p) k (elt (tbF m) n j)))) (nI (4 * s + i)) ps0 = some (u, ps') ∧ ((u = 1 ∧ (∀ j, j < cS (tbF m) n → okB n B mn k m (asg op p) j) ∧ ps' = zs * Int32.ofInt (w0 + si (cS (tbF m) n) (fun j => wJ B ed pf (asg op p) k (elt (tbF m) n j)))) ∨ (u = 0 ∧ ¬∀ j, j < cS (tbF m) n → okB n B mn k m (asg op p) j)) := by
  have hn := N.1
  have hpw := p2n hn
  intro f
  induction f with
  | zero => intro i h1 h2; omega
  | succ f ih =>
    intro i hi hf hok
    rw [L_X7_addEdges_43, ld_ok _ (in14 hs), cl14 hs, hoc, nx_s4]
    rcases Nat.lt_or_ge i (cS (tbF m) n) with c | c
    · obtain ⟨e1, e2⟩ := elt_t n i c
      have e2 : m.testBit (elt (tbF m) n i) = true := e2
      have hB := N.2.2.1 k
      have ih := ih (i + 1) (by omega) (by omega)
      rw [si] at ih
      rw [if_neg (nI_ge (show 4 * s + i < 4 * s + cS (tbF m) n by omega) (by omega)), ld_ok _ (in56 (by omega)), nI_clamp (by omega), hoth i c, bnd_s]
      by_cases d : (B k).testBit (elt (tbF m) n i) = true
      · have pk := hp k hk (Or.inr rfl)
        have pe := hp _ e1 (Or.inl e2)
        have a1 := asg_t (op := op) (p := p) pk.2
        have a2 := asg_t (op := op) (p := p) pe.2
        rw [cal_e (hasB1 (by omega) (by omega) d), if_neg n10, cal_e (ps_n hn H e1 pe), nx_s4, bnd_s, ld_ok _ (in16 (by omega)), nI_clamp (by omega)]
        by_cases q : mn (4 * asg op p k + asg op p (elt (tbF m) n i)) = 0
        · rw [if_pos q, nx_s14, ld_ok _ (in196 (by omega)), ld_ok _ (in16 (by omega)), nI_clamp (by omega), nI_clamp (by omega), bnd_s, bnd_s, nI_1]
          rw [i32 (ed (14 * k + elt (tbF m) n i)), i32 (pf (4 * asg op p k + asg op p (elt (tbF m) n i))), ← Int32.ofInt_mul, ← Int32.ofInt_add, Int.add_assoc]
          have ew : wJ B ed pf (asg op p) k (elt (tbF m) n i) = (ed (14 * k + elt (tbF m) n i)).toInt * (pf (4 * asg op p k + asg op p (elt (tbF m) n i))).toInt := by
            unfold wJ wE
            rw [if_pos d]
          rw [ew] at ih
          refine ih fun j hj => ?_
          by_cases z : j = i
          · subst z
            intro _
            show decide (¬mn _ = 0) = false
            rw [decide_eq_false]
            exact fun h => h q
          · exact hok j (by omega)
        · rw [if_neg q]
          refine ⟨0, ps0, rfl, Or.inr ⟨rfl, fun h => ?_⟩⟩
          have := h i c d
          have : decide (¬mn (4 * asg op p k + asg op p (elt (tbF m) n i)) = 0) = false := this
          rw [decide_eq_true q] at this
          cases this
      · rw [cal_e (hasB0 (by omega) (by omega) (bf d)), if_pos rfl, bnd_s, nI_1]
        have ew : wJ B ed pf (asg op p) k (elt (tbF m) n i) = 0 := by
          unfold wJ
          rw [if_neg d]
        rw [ew, Int.add_zero] at ih
        refine ih fun j hj => ?_
        by_cases z : j = i
        · subst z
          intro h; exact absurd h d
        · exact hok j (by omega)
    · have ei : i = cS (tbF m) n := by omega
      rw [if_pos (nI_le (show 4 * s + cS (tbF m) n ≤ 4 * s + i by omega) (by omega)), bnd_s, ei]
      rw [ei] at hok
      exact ⟨_, _, rfl, Or.inl ⟨rfl, hok, rfl⟩⟩
theorem in3584 {k : Nat} (h : k < 3584) : okI (nI k) 3584 := nI_in (c := k) (N := 3584) h (by decide)
theorem nx_s256 (s x : Nat) : nI s * (256 : Int32) + nI x = nI (256 * s + x) := by rw [show (256 : Int32) = nI 256 from rfl, nx_mul, nI_add, Nat.mul_comm]
theorem l_en {n j m : Nat} (hn : n ≤ 14) (hj : j < 14) {oth oc picks str : Nat → Int32} (hoc : oc j = nI (cS (tbF m) n)) (h4 : cS (tbF m) n ≤ 4) (hoth : ∀ f, f < cS (tbF m) n → oth (4 * j + f) = nI (elt (tbF m) n f)) {cn p : Nat → Nat} (hst : ∀ f, f < cS (tbF m) n → str (4 * j + f) = nI (rx (tbF m) cn (elt (tbF m) n f))) (hp : ∀ i, i < n → m.testBit i = true → picks i = nI (p i)) : ∀ f i, i ≤ cS (tbF m) n → cS (tbF m) n - i < f → L_X7_entryOf_10 (nI j) oth oc picks str f (nI (256 * j + Sn i (fun f => p (elt (tbF m) n f) * rx (tbF m) cn (elt (tbF m) n f)))) (nI (4 * j + i)) = some (nI (256 * j + ix (tbF m) cn p n)) := by
  intro f
  induction f with
  | zero => intro i h1 h2; omega
  | succ f ih =>
    intro i hi hf
    rw [L_X7_entryOf_10, ld_ok _ (in14 hj), cl14 hj, hoc, nx_s4]
    rcases Nat.lt_or_ge i (cS (tbF m) n) with c | c
    · obtain ⟨e1, e2⟩ := elt_t n i c
      have ih := ih (i + 1) (by omega) (by omega)
      rw [Sn, ← Nat.add_assoc] at ih
      rw [if_neg (nI_ge (show 4 * j + i < 4 * j + cS (tbF m) n by omega) (by omega)), ld_ok _ (in56 (by omega)), nI_clamp (by omega), hoth i c, ld_ok _ (in14 (by omega)), cl14 (by omega), hp _ e1 e2, ld_ok _ (in56 (by omega)), nI_clamp (by omega), hst i c, nx_mul, nI_add, bnd_s, bnd_s, nI_1]
      exact ih
    · rw [if_pos (nI_le (show 4 * j + cS (tbF m) n ≤ 4 * j + i by omega) (by omega)), show i = cS (tbF m) n by omega, ← ix_el]
theorem entry_n {n j m : Nat} (hn : n ≤ 14) (hj : j < 14) {oth oc picks str : Nat → Int32} (hoc : oc j = nI (cS (tbF m) n)) (h4 : cS (tbF m) n ≤ 4) (hoth : ∀ f, f < cS (tbF m) n → oth (4 * j + f) = nI (elt (tbF m) n f)) {cn p : Nat → Nat} (hst : ∀ f, f < cS (tbF m) n → str (4 * j + f) = nI (rx (tbF m) cn (elt (tbF m) n f))) (hp : ∀ i, i < n → m.testBit i = true → picks i = nI (p i)) : f_X7_entryOf (nI j) oth oc picks str = some (nI (256 * j + ix (tbF m) cn p n)) := by
  unfold f_X7_entryOf
  have e1 : nI j * (256 : Int32) = nI (256 * j + 0) := by rw [← nx_s256, show nI 0 = 0 from rfl, Int32.add_zero]
  have e2 : nI j * (4 : Int32) = nI (4 * j + 0) := by rw [← nx_s4, show nI 0 = 0 from rfl, Int32.add_zero]
  rw [e1, e2, bnd_s, bnd_s]
  exact l_en hn hj hoc h4 hoth hst hp NN 0 (Nat.zero_le _) (by show _ < 32768; omega)
theorem Pr_none {V : Nat → Va} {i : Nat} (h : V i = none) : ∀ c, i < c → Pr c V = none := by
  intro c
  induction c with
  | zero => intro h; omega
  | succ c ih =>
    intro hi
    rw [Pr]
    by_cases e : i = c
    · subst e; rw [h]; exact vm0 _
    · rw [ih (by omega)]; rfl
theorem l_at {n s : Nat} (hn : n ≤ 14) (hs : s < n) {oth oc fe fc picks str sums counts : Nat → Int32} {P : Nat → Bool} (hfc : fc s = nI (cS P n)) (hfe : ∀ f, f < cS P n → fe (14 * s + f) = nI (elt P n f)) {at' : Nat → Nat} {V : Nat → Va} {M β : Nat} (hM : M ≤ 1073741824) (hT : ∀ j, j < n → P j = true → f_X7_entryOf (nI j) oth oc picks str = some (nI (at' j)) ∧ at' j < 3584 ∧ Ce (sums (at' j)) (counts (at' j)) (V j) ∧ vB M β (V j)) (v0 : Va) : ∀ f i x ps, i ≤ cS P n → cS P n - i < f → Ce ps x (vMul v0 (Pr i (fun f => V (elt P n f)))) → ∃ u ps', L_X7_addTables_4 (nI s) oth oc fe fc picks str sums counts f x (nI i) ps = some (u, ps') ∧ Ce ps' u (vMul v0 (Pr (cS P n) (fun f => V (elt P n f)))) := by
  have hc := cS_le P n
  intro f
  induction f with
  | zero => intro i x ps h1 h2; omega
  | succ f ih =>
    intro i x ps hi hf hC
    rw [L_X7_addTables_4, ld_ok _ (in14 (by omega)), cl14 (by omega), hfc]
    rcases Nat.lt_or_ge i (cS P n) with c | c
    · obtain ⟨e1, e2⟩ := elt_t n i c
      obtain ⟨t1, t2, t3, t4⟩ := hT _ e1 e2
      rw [if_neg (nI_ge c (by omega)), nx_s14, ld_ok _ (in196 (by omega)), nI_clamp (by omega), hfe i c, cal_e t1, bnd_s, ld_ok _ (in3584 t2), nI_clamp (by omega)]
      by_cases z : counts (at' (elt P n i)) = 0
      · rw [if_pos z]
        refine ⟨0, ps, rfl, ?_⟩
        have := (Ce_z hM t4 t3).mp z
        rw [Pr_none (V := fun f => V (elt P n f)) (i := i) this (cS P n) c, show vMul v0 none = none from vm0 v0]
        exact ⟨fun _ => rfl, fun _ _ _ e => nomatch e⟩
      · rw [if_neg z, ld_ok _ (in3584 t2), nI_clamp (by omega), bnd_s, ld_ok _ (in3584 t2), nI_clamp (by omega), bnd_s, bnd_s, nI_1]
        refine ih (i + 1) _ _ (by omega) (by omega) ?_
        rw [Pr, ← vmA]
        exact Ce_mul hC t3
    · rw [if_pos (nI_le c (by omega)), show cS P n = i by omega]
      exact ⟨x, ps, rfl, hC⟩
theorem tables_n {n s : Nat} (hn : n ≤ 14) (hs : s < n) {oth oc fe fc picks str sums counts : Nat → Int32} {P : Nat → Bool} (hfc : fc s = nI (cS P n)) (hfe : ∀ f, f < cS P n → fe (14 * s + f) = nI (elt P n f)) {at' : Nat → Nat} {V : Nat → Va} {M β : Nat} (hM : M ≤ 1073741824) (hT : ∀ j, j < n → P j = true → f_X7_entryOf (nI j) oth oc picks str = some (nI (at' j)) ∧ at' j < 3584 ∧ Ce (sums (at' j)) (counts (at' j)) (V j) ∧ vB M β (V j)) {v0 : Va} {ps : Int32} (h : Ce ps 1 v0) : ∃ u ps', f_X7_addTables (nI s) ps oth oc fe fc picks str sums counts = some (u, ps') ∧ Ce ps' u (vMul v0 (Pr n (fun j => if P j = true then V j else va1))) := by
  unfold f_X7_addTables
  rw [bnd_s, bnd_s, Pr_el]
  have hc := cS_le P n
  exact l_at hn hs hfc hfe hM hT v0 NN 0 1 ps (Nat.zero_le _) (by show _ < 32768; omega) (by rw [show Pr 0 (fun f => V (elt P n f)) = va1 from rfl, vm1]; exact h)
/-- one entry -/
theorem l_fe {n s k : Nat} (hn : n ≤ 14) (hk : k < n) (zs : Int32) (wt near0 ed fa pf mn knots oth oc fe fc ost ocn str : Nat → Int32) {c : Nat} (hc : ocn k = nI c) (hc4 : c ≤ 4) {at' : Nat} (hat : at' < 3584) {val : Nat → Va} {M β : Nat} (hM : 4 * M ≤ 1073741824) (hβ : β ≤ 1073741824) (hB : ∀ q, q < c → vB M β (val q)) {Pk : (Nat → Int32) → Prop} (hPk : ∀ g x, Pk g → Pk (upd g k x)) (sums counts : Nat → Int32) (hv : ∀ q, q < c → ∀ g ps, Pk g → ∃ u ps1, f_X7_addEdges (nI s) (nI k) zs ps wt near0 ed fa pf mn oth oc ost (upd g k (nI q)) = some (u, ps1) ∧ ((u = 0 ∧ val q = none) ∨ (¬u = 0 ∧ ∃ u2 ps2, f_X7_addTables (nI s) ps1 oth oc fe fc (upd g k (nI q)) str sums counts = some (u2, ps2) ∧ Ce ps2 u2 (val q)))) : ∀ f q bs bc ps g, q ≤ c → c - q < f → Pk g → Ce bs bc (SN q val) → ∃ bs' bc' ps' g', L_X7_fillEntry_19 (nI s) (nI at') zs wt near0 ed fa pf mn knots oth oc fe fc ost ocn str f (nI k) bs bc (nI q) ps g sums counts = some (ps', g', upd sums at' bs', upd counts at' bc') ∧ Pk g' ∧ Ce bs' bc' (SN c val) := by
  intro f
  induction f with
  | zero => intro q bs bc ps g h1 h2; omega
  | succ f ih =>
    intro q bs bc ps g hq hf hg hC
    rw [L_X7_fillEntry_19, ld_ok _ (in14 (by omega)), cl14 (by omega), hc]
    rcases Nat.lt_or_ge q c with z | z
    · have hg' := hPk g (nI q) hg
      have bv : vB (4 * M) β (SN q val) := vB_le (vB_SN q fun i hi => hB i (by omega)) (Nat.mul_le_mul_right _ (by omega)) (Nat.le_refl _)
      have bw : vB (4 * M) β (val q) := vB_le (hB q z) (by omega) (Nat.le_refl _)
      have fin : ∀ (u2 ps2 : Int32), Ce ps2 u2 (val q) → ∃ bs' bc' ps' g', J_X7_fillEntry_56 (nI s) (nI at') zs wt near0 ed fa pf mn knots oth oc fe fc ost ocn str (fun y0 y1 y2 y3 y4 y5 y6 y7 => L_X7_fillEntry_19 (nI s) (nI at') zs wt near0 ed fa pf mn knots oth oc fe fc ost ocn str f y0 y1 y2 y3 y4 y5 y6 y7) (nI k) bs bc (nI q) u2 ps2 (upd g k (nI q)) sums counts = some (ps', g', upd sums at' bs', upd counts at' bc') ∧ Pk g' ∧ Ce bs' bc' (SN c val) := by
        intro u2 ps2 hCe
        obtain ⟨b1, b2, b3, b4⟩ := Ce_add hM hβ bv bw hC hCe (fun bs bc => L_X7_fillEntry_19 (nI s) (nI at') zs wt near0 ed fa pf mn knots oth oc fe fc ost ocn str f (nI k) bs bc (nI q + 1) ps2 (upd g k (nI q)) sums counts)
        obtain ⟨bs', bc', ps', g', r1, r2, r3⟩ := ih (q + 1) b1 b2 ps2 (upd g k (nI q)) (by omega) (by omega) hg' b3
        refine ⟨bs', bc', ps', g', ?_, r2, r3⟩
        rw [← nI_1] at r1
        exact b4.trans r1
      rw [if_neg (nI_ge z (by omega)), sI_ok _ (in14 (by omega)), cl14 (by omega)]
      obtain ⟨u, ps1, h1, h2⟩ := hv q z g ps hg
      rw [cal_e h1]
      rcases h2 with ⟨h2, h3⟩ | ⟨h2, u2, ps2, h3, h4⟩
      · rw [if_pos h2]
        exact fin 0 ps1 ⟨fun _ => rfl, fun _ _ _ e => by rw [h3] at e; cases e⟩
      · rw [if_neg h2, cal_e h3]
        exact fin u2 ps2 h4
    · rw [if_pos (nI_le z (by omega)), sI_ok _ (in3584 hat), sI_ok _ (in3584 hat), nI_clamp (by omega)]
      refine ⟨bs, bc, ps, g, rfl, hg, ?_⟩
      rw [show c = q by omega]; exact hC
theorem ix_0 {D : Nat → Bool} {cn : Nat → Nat} : ∀ k, ix D cn (fun _ => 0) k = 0 := by
  intro k
  induction k with
  | zero => rfl
  | succ k ih =>
    rw [ix, ih, Nat.zero_mul]
    split <;> rfl
theorem rx_pos {D : Nat → Bool} {cn : Nat → Nat} : ∀ k, 0 < rx D cn k → ∀ i, i < k → D i = true → 0 < cn i := by
  intro k
  induction k with
  | zero => intro _ i hi; omega
  | succ k ih =>
    intro h i hi hd
    rw [rx] at h
    by_cases c : D k = true
    · rw [if_pos c] at h
      have h1 := Nat.pos_of_mul_pos_right h
      have h2 := Nat.pos_of_mul_pos_left h
      by_cases e : i = k
      · subst e; first | exact h2 | exact h1
      · first | exact ih h1 i (by omega) hd | exact ih h2 i (by omega) hd
    · rw [if_neg c] at h
      by_cases e : i = k
      · subst e; exact absurd hd c
      · exact ih h i (by omega) hd
/-- picks of a set's knots -/
def PkV (n m : Nat) (cn p : Nat → Nat) (g : Nat → Int32) : Prop := ∀ k, k < n → m.testBit k = true → g k = nI (p k) ∧ p k < cn k
theorem l_pn {n s m : Nat} (hn : n ≤ 14) (hs : s < 14) {oth oc ocn : Nat → Int32} (hoc : oc s = nI (cS (tbF m) n)) (h4 : cS (tbF m) n ≤ 4) (hoth : ∀ f, f < cS (tbF m) n → oth (4 * s + f) = nI (elt (tbF m) n f)) {cn : Nat → Nat} (hcn : ∀ k, k < n → ocn k = nI (cn k) ∧ cn k ≤ 4) (e1 : Nat) : ∀ f i g p, i ≤ cS (tbF m) n → cS (tbF m) n - i < f → PkV n m cn p g → ix (tbF m) cn p n + rxf (tbF m) cn n i = e1 → ∃ g', L_X7_pickNext_4 (nI s) oth oc ocn f (nI (4 * s + i)) g = some g' ∧ (∀ k, m.testBit k = false → g' k = g k) ∧ (e1 < rx (tbF m) cn n → ∃ p', PkV n m cn p' g' ∧ ix (tbF m) cn p' n = e1) := by
  intro f
  induction f with
  | zero => intro i g p h1 h2; omega
  | succ f ih =>
    intro i g p hi hf hg he
    rw [L_X7_pickNext_4, ld_ok _ (in14 hs), cl14 hs, hoc, nx_s4]
    rcases Nat.lt_or_ge i (cS (tbF m) n) with c | c
    · obtain ⟨t1, t2⟩ := elt_t n i c
      have t2' : m.testBit (elt (tbF m) n i) = true := t2
      obtain ⟨g1, g2⟩ := hg _ t1 t2'
      obtain ⟨c1, c2⟩ := hcn _ t1
      have r1 := rxf_s (D := tbF m) (oc := cn) c
      have r2 : rxf (tbF m) cn n i = rx (tbF m) cn (elt (tbF m) n i) := if_pos c
      have r3 : rx (tbF m) cn (elt (tbF m) n i) * cn (elt (tbF m) n i) = rxf (tbF m) cn n (i + 1) := by rw [r1, r2]
      rw [if_neg (nI_ge (show 4 * s + i < 4 * s + cS (tbF m) n by omega) (by omega)), ld_ok _ (in56 (by omega)), nI_clamp (by omega), hoth i c, bnd_s, ld_ok _ (in14 (by omega)), cl14 (by omega), g1, nI_1, sI_ok _ (in14 (by omega)), cl14 (by omega), ld_ok _ (in14 (by omega)), cl14 (by omega), up_e, ld_ok _ (in14 (by omega)), cl14 (by omega), c1]
      rcases Nat.lt_or_ge (p (elt (tbF m) n i) + 1) (cn (elt (tbF m) n i)) with z | z
      · rw [if_neg (nI_ge z (by omega))]
        refine ⟨_, rfl, fun k hk => up_n (fun q => by rw [q, t2'] at hk; cases hk), fun _ => ⟨fun k => if k = elt (tbF m) n i then p (elt (tbF m) n i) + 1 else p k, fun k hk hm => ?_, ?_⟩⟩
        · show upd g (elt (tbF m) n i) (nI (p (elt (tbF m) n i) + 1)) k = nI (if k = elt (tbF m) n i then p (elt (tbF m) n i) + 1 else p k) ∧ (if k = elt (tbF m) n i then p (elt (tbF m) n i) + 1 else p k) < cn k
          by_cases q : k = elt (tbF m) n i
          · rw [if_pos q, q, up_e]; exact ⟨rfl, z⟩
          · rw [if_neg q, up_n q]; exact hg k hk hm
        · have := ix_u (D := tbF m) (oc := cn) (p := p) (j := elt (tbF m) n i) (d := p (elt (tbF m) n i) + 1) t2 n t1
          rw [Nat.add_mul, Nat.one_mul] at this
          omega
      · have ez : p (elt (tbF m) n i) + 1 = cn (elt (tbF m) n i) := by omega
        rw [if_pos (nI_le z (by omega)), sI_ok _ (in14 (by omega)), cl14 (by omega), bnd_s, nI_1]
        obtain ⟨g', k1, k2, k3⟩ := ih (i + 1) (upd (upd g (elt (tbF m) n i) (nI (p (elt (tbF m) n i) + 1))) (elt (tbF m) n i) 0) (fun k => if k = elt (tbF m) n i then 0 else p k) (by omega) (by omega) (fun k hk hm => by
          show upd (upd g (elt (tbF m) n i) (nI (p (elt (tbF m) n i) + 1))) (elt (tbF m) n i) 0 k = nI (if k = elt (tbF m) n i then 0 else p k) ∧ (if k = elt (tbF m) n i then 0 else p k) < cn k
          by_cases q : k = elt (tbF m) n i
          · rw [if_pos q, q, up_e]; exact ⟨rfl, by omega⟩
          · rw [if_neg q, up_n q, up_n q]; exact hg k hk hm) (by
          have := ix_u (D := tbF m) (oc := cn) (p := p) (j := elt (tbF m) n i) (d := 0) t2 n t1
          rw [← ez, Nat.mul_add, Nat.mul_one, Nat.mul_comm] at r3
          rw [Nat.zero_mul] at this
          omega)
        refine ⟨g', k1, fun k hk => ?_, k3⟩
        have q : k ≠ elt (tbF m) n i := fun q => by rw [q, t2'] at hk; cases hk
        rw [k2 k hk, up_n q, up_n q]
    · have ei : i = cS (tbF m) n := by omega
      rw [if_pos (nI_le (show 4 * s + cS (tbF m) n ≤ 4 * s + i by omega) (by omega))]
      refine ⟨g, rfl, fun _ _ => rfl, fun h => ?_⟩
      have : rxf (tbF m) cn n i = rx (tbF m) cn n := if_neg (by omega)
      omega
theorem next_n {n s m : Nat} (hn : n ≤ 14) (hs : s < 14) {oth oc ocn : Nat → Int32} (hoc : oc s = nI (cS (tbF m) n)) (h4 : cS (tbF m) n ≤ 4) (hoth : ∀ f, f < cS (tbF m) n → oth (4 * s + f) = nI (elt (tbF m) n f)) {cn : Nat → Nat} (hcn : ∀ k, k < n → ocn k = nI (cn k) ∧ cn k ≤ 4) {g : Nat → Int32} {p : Nat → Nat} (hg : PkV n m cn p g) : ∃ g', f_X7_pickNext (nI s) oth oc ocn g = some g' ∧ (∀ k, m.testBit k = false → g' k = g k) ∧ (ix (tbF m) cn p n + 1 < rx (tbF m) cn n → ∃ p', PkV n m cn p' g' ∧ ix (tbF m) cn p' n = ix (tbF m) cn p n + 1) := by
  unfold f_X7_pickNext
  have e2 : nI s * (4 : Int32) = nI (4 * s + 0) := by rw [← nx_s4, show nI 0 = 0 from rfl, Int32.add_zero]
  rw [e2, bnd_s]
  exact l_pn hn hs hoc h4 hoth hcn _ NN 0 g p (Nat.zero_le _) (by show _ < 32768; omega) hg (by rw [rxf_0])
/-- all entries of a table -/
theorem l_ft {n s m : Nat} (hn : n ≤ 14) (hs : s < 14) (zs : Int32) (wt near0 ed fa pf mn knots : Nat → Int32) {oth oc ocn : Nat → Int32} (fe fc ost str : Nat → Int32) (hoc : oc s = nI (cS (tbF m) n)) (h4 : cS (tbF m) n ≤ 4) (hoth : ∀ f, f < cS (tbF m) n → oth (4 * s + f) = nI (elt (tbF m) n f)) {cn : Nat → Nat} (hcn : ∀ k, k < n → ocn k = nI (cn k) ∧ cn k ≤ 4) {E : Nat} (hE : E = rx (tbF m) cn n) (hE4 : E ≤ 256) {Tv : (Nat → Nat) → Va} (hTv : ∀ p p', (∀ k, k < n → m.testBit k = true → p k = p' k) → Tv p = Tv p') {Inv : (Nat → Int32) → (Nat → Int32) → Prop} (hInv : ∀ su co e x y, e < 256 → Inv su co → Inv (upd su (256 * s + e) x) (upd co (256 * s + e) y)) (hfe : ∀ p g ps su co, Inv su co → PkV n m cn p g → ∃ bs' bc' ps' g', f_X7_fillEntry (nI s) (nI (256 * s + ix (tbF m) cn p n)) zs ps wt near0 ed fa pf mn knots oth oc fe fc ost ocn g str su co = some (ps', g', upd su (256 * s + ix (tbF m) cn p n) bs', upd co (256 * s + ix (tbF m) cn p n) bc') ∧ PkV n m cn p g' ∧ Ce bs' bc' (Tv p)) : ∀ f e ps g su co, e ≤ E → E - e < f → (e < E → ∃ p, PkV n m cn p g ∧ ix (tbF m) cn p n = e) → Inv su co → (∀ p, (∀ k, k < n → m.testBit k = true → p k < cn k) → ix (tbF m) cn p n < e → Ce (su (256 * s + ix (tbF m) cn p n)) (co (256 * s + ix (tbF m) cn p n)) (Tv p)) → ∃ ps' g' su' co', L_X7_fillTable_67 (nI s) zs wt near0 ed fa pf mn knots oth oc fe fc ost ocn f (nI E) (nI e) ps g str su co = some (ps', g', str, su', co') ∧ (∀ p, (∀ k, k < n → m.testBit k = true → p k < cn k) → Ce (su' (256 * s + ix (tbF m) cn p n)) (co' (256 * s + ix (tbF m) cn p n)) (Tv p)) ∧ ∀ i, ¬(256 * s ≤ i ∧ i < 256 * s + 256) → su' i = su i ∧ co' i = co i := by
  intro f
  induction f with
  | zero => intro e ps g su co h1 h2; omega
  | succ f ih =>
    intro e ps g su co he hf hp hI hC
    rw [L_X7_fillTable_67]
    rcases Nat.lt_or_ge e E with c | c
    · obtain ⟨p, p1, p2⟩ := hp c
      have q1 : e + 1 ≤ E := c
      have q2 : E - (e + 1) < f := by clear hp; omega
      clear hp
      obtain ⟨bs', bc', ps', g', f1, f2, f3⟩ := hfe p g ps su co hI p1
      obtain ⟨g'', n1, n2, n3⟩ := next_n hn hs hoc h4 hoth hcn f2
      rw [p2] at f1 n3
      have I' := hInv su co e bs' bc' (by omega) hI
      rw [if_neg (nI_ge c (by omega)), nx_s256, cal_e f1, cal_e n1, bnd_s, nI_1]
      obtain ⟨ps2, g2, su2, co2, r1, r2, r3⟩ := ih (e + 1) ps' g'' (upd su (256 * s + e) bs') (upd co (256 * s + e) bc') q1 q2 (fun h => n3 (by rw [← hE]; exact h)) I' (fun q q1 q2 => by
        by_cases z : ix (tbF m) cn q n = e
        · rw [z, up_e, up_e]
          have := ix_inj n q1 (fun k hk hd => (p1 k hk hd).2) (z.trans p2.symm)
          rw [hTv q p this]
          exact f3
        · rw [up_n (by omega), up_n (by omega)]
          exact hC q q1 (by omega))
      refine ⟨ps2, g2, su2, co2, r1, r2, fun i hi => ?_⟩
      obtain ⟨i1, i2⟩ := r3 i hi
      rw [i1, i2, up_n (by omega), up_n (by omega)]
      exact ⟨rfl, rfl⟩
    · rw [if_pos (nI_le c (by omega))]
      refine ⟨ps, g, su, co, rfl, fun p hp' => hC p hp' ?_, fun _ _ => ⟨rfl, rfl⟩⟩
      have := ix_lt (D := tbF m) (oc := cn) (p := p) n hp'
      omega
theorem l_f6 {n s m : Nat} (hn : n ≤ 14) (hs : s < 14) (zs : Int32) (wt near0 ed fa pf mn knots : Nat → Int32) {oth oc ocn : Nat → Int32} (fe fc ost : Nat → Int32) (hoc : oc s = nI (cS (tbF m) n)) (h4 : cS (tbF m) n ≤ 4) (hoth : ∀ f, f < cS (tbF m) n → oth (4 * s + f) = nI (elt (tbF m) n f)) {cn : Nat → Nat} (hcn : ∀ k, k < n → ocn k = nI (cn k) ∧ cn k ≤ 4) (ps : Int32) (su co : Nat → Int32) : ∀ f i g str, i ≤ cS (tbF m) n → cS (tbF m) n - i < f → (∀ j, j < i → str (4 * s + j) = nI (rx (tbF m) cn (elt (tbF m) n j)) ∧ g (elt (tbF m) n j) = 0) → ∃ g' str', L_X7_fillTable_6 (nI s) zs wt near0 ed fa pf mn knots oth oc fe fc ost ocn f (nI (rxf (tbF m) cn n i)) (nI (4 * s + i)) ps g str su co = L_X7_fillTable_67 (nI s) zs wt near0 ed fa pf mn knots oth oc fe fc ost ocn NN (nI (rx (tbF m) cn n)) 0 ps g' str' su co ∧ (∀ j, j < cS (tbF m) n → str' (4 * s + j) = nI (rx (tbF m) cn (elt (tbF m) n j)) ∧ g' (elt (tbF m) n j) = 0) ∧ (∀ j, ¬(4 * s ≤ j ∧ j < 4 * s + 4) → str' j = str j) := by
  intro f
  induction f with
  | zero => intro i g str h1 h2; omega
  | succ f ih =>
    intro i g str hi hf h
    rw [L_X7_fillTable_6, ld_ok _ (in14 hs), cl14 hs, hoc, nx_s4]
    rcases Nat.lt_or_ge i (cS (tbF m) n) with c | c
    · obtain ⟨t1, t2⟩ := elt_t n i c
      obtain ⟨c1, c2⟩ := hcn _ t1
      have r1 := rxf_s (D := tbF m) (oc := cn) c
      have r2 : rxf (tbF m) cn n i = rx (tbF m) cn (elt (tbF m) n i) := if_pos c
      rw [if_neg (nI_ge (show 4 * s + i < 4 * s + cS (tbF m) n by omega) (by omega)), ld_ok _ (in56 (by omega)), nI_clamp (by omega), hoth i c, bnd_s, sI_ok _ (in56 (by omega)), nI_clamp (by omega), ld_ok _ (in14 (by omega)), cl14 (by omega), c1, nx_mul, ← r1, bnd_s, sI_ok _ (in14 (by omega)), cl14 (by omega), bnd_s, nI_1]
      obtain ⟨g', str', k1, k2, k3⟩ := ih (i + 1) (upd g (elt (tbF m) n i) 0) (upd str (4 * s + i) (nI (rxf (tbF m) cn n i))) (by omega) (by omega) (fun j hj => by
        by_cases z : j = i
        · rw [z, up_e, up_e, r2]; exact ⟨rfl, rfl⟩
        · obtain ⟨a, b⟩ := h j (by omega)
          rw [up_n (show 4 * s + j ≠ 4 * s + i by omega)]
          refine ⟨a, ?_⟩
          by_cases q : elt (tbF m) n j = elt (tbF m) n i
          · rw [q, up_e]
          · rw [up_n q]; exact b)
      refine ⟨g', str', k1, k2, fun j hj => ?_⟩
      rw [k3 j hj, up_n (by omega)]
    · have ei : i = cS (tbF m) n := by omega
      have : rxf (tbF m) cn n i = rx (tbF m) cn n := if_neg (by omega)
      rw [if_pos (nI_le (show 4 * s + cS (tbF m) n ≤ 4 * s + i by omega) (by omega)), bnd_s, this]
      rw [ei] at h
      exact ⟨g, str, rfl, h, fun _ _ => rfl⟩
theorem si_el {P : Nat → Bool} (g : Nat → Int) : ∀ m, si m (fun o => if P o = true then g o else 0) = si (cS P m) (fun f => g (elt P m f)) := by
  intro m
  induction m with
  | zero => rfl
  | succ m ih =>
    rw [si, ih]
    by_cases c : P m = true
    · rw [if_pos c, cS_t c, si, elt_n c]
      congr 1
      exact si_c _ fun i hi => by rw [elt_o hi]
    · rw [if_neg c, cS_f c, Int.add_zero]
      exact si_c _ fun i hi => by rw [elt_f c]
theorem Sm_1 {S : Nat → Bool} {k : Nat} (h : ∀ i, S i = decide (i = k)) (F : As → Va) : ∀ n (a : As), k < n → Sm S n F a = v4 (fun s => F (aU a k s)) := by
  intro n
  induction n with
  | zero => intro a h; omega
  | succ n ih =>
    intro a hk
    rw [Sm]
    by_cases e : k = n
    · subst e
      rw [if_pos (by rw [h, decide_eq_true rfl])]
      refine v4_c fun s _ => ?_
      exact Sm_0 k F _ fun i hi => by rw [h, decide_eq_false (by omega)]
    · rw [if_neg (by rw [h, decide_eq_false (fun z => e z.symm)]; decide)]
      exact ih a (by omega)
theorem Pr_tl {f : Nat → Va} {s : Nat} : ∀ n, s ≤ n → (∀ i, s ≤ i → i < n → f i = va1) → Pr n f = Pr s f := by
  intro n
  induction n with
  | zero => intro h _; rw [show s = 0 by omega]
  | succ n ih =>
    intro h h1
    by_cases e : s = n + 1
    · rw [e]
    · rw [Pr, h1 n (by omega) (by omega), vm1]
      exact ih (by omega) fun i h2 h3 => h1 i h2 (by omega)
/-- the class's steps: what a step adds, whether it may be -/
def lw (n : Nat) (B O kn : Nat → Nat) (wt ed fa pf : Nat → Int32) (s : Nat) (a : As) : Int := wK wt fa (kn s) (a (kn s)) + si n (fun o => if tbF (O s) o = true then wJ B ed pf a (kn s) o else 0)
def okL (n : Nat) (B O kn : Nat → Nat) (op : Nat → Nat → Bool) (mn : Nat → Int32) (s : Nat) (a : As) : Prop := op (kn s) (a (kn s)) = true ∧ ∀ o, o < n → (O s).testBit o = true → (B (kn s)).testBit o = true → barF mn (a (kn s)) (a o) = false
noncomputable def lcP (n : Nat) (B O kn : Nat → Nat) (op : Nat → Nat → Bool) (wt ed fa pf mn : Nat → Int32) (z : Int) (s : Nat) (a : As) : Va := vC (okL n B O kn op mn s a) (z * lw n B O kn wt ed fa pf s a)
def SsP (kn : Nat → Nat) (s k : Nat) : Bool := decide (k = kn s)
noncomputable def TP (n : Nat) (B O kn us : Nat → Nat) (op : Nat → Nat → Bool) (wt ed fa pf mn : Nat → Int32) (z : Int) (s : Nat) (a : As) : Va := Tt n (SsP kn) (lcP n B O kn op wt ed fa pf mn z) us s a
def ocF (op : Nat → Nat → Bool) (k : Nat) : Nat := cS (op k) 4
/-- a table is right -/
def TV (n : Nat) (B O kn us : Nat → Nat) (op : Nat → Nat → Bool) (wt ed fa pf mn : Nat → Int32) (z : Int) (s : Nat) (str su co : Nat → Int32) : Prop := (∀ f, f < cS (tbF (O s)) n → str (4 * s + f) = nI (rx (tbF (O s)) (ocF op) (elt (tbF (O s)) n f))) ∧ ∀ p, (∀ k, k < n → (O s).testBit k = true → p k < ocF op k) → Ce (su (256 * s + ix (tbF (O s)) (ocF op) p n)) (co (256 * s + ix (tbF (O s)) (ocF op) p n)) (TP n B O kn us op wt ed fa pf mn z s (asg op p))
theorem ocF_4 (op : Nat → Nat → Bool) (k : Nat) : ocF op k ≤ 4 := cS_le _ 4
theorem ix_256 {n m : Nat} {op : Nat → Nat → Bool} (h4 : cS (tbF m) n ≤ 4) {p : Nat → Nat} (hp : ∀ k, k < n → m.testBit k = true → p k < ocF op k) : ix (tbF m) (ocF op) p n < 256 := by
  have h1 := ix_lt (D := tbF m) (oc := ocF op) (p := p) n hp
  have h2 := rx_le (D := tbF m) (ocF_4 op) n
  have h3 : 4 ^ cS (tbF m) n ≤ 4 ^ 4 := Nat.pow_le_pow_right (by decide) h4
  have h5 : 4 ^ 4 = 256 := rfl
  omega
theorem TV_k {n : Nat} {B O kn us : Nat → Nat} {op : Nat → Nat → Bool} {wt ed fa pf mn : Nat → Int32} {z : Int} {j : Nat} (h4 : cS (tbF (O j)) n ≤ 4) {str su co str' su' co' : Nat → Int32} (h : TV n B O kn us op wt ed fa pf mn z j str su co) (e1 : ∀ i, i < 4 → str' (4 * j + i) = str (4 * j + i)) (e2 : ∀ i, i < 256 → su' (256 * j + i) = su (256 * j + i) ∧ co' (256 * j + i) = co (256 * j + i)) : TV n B O kn us op wt ed fa pf mn z j str' su' co' := by
  refine ⟨fun f hf => ?_, fun p hp => ?_⟩
  · rw [e1 f (by omega)]; exact h.1 f hf
  · obtain ⟨q1, q2⟩ := e2 _ (ix_256 h4 hp)
    rw [q1, q2]; exact h.2 p hp
theorem lw_abs {n : Nat} (hn : n ≤ 14) {B O kn : Nat → Nat} {wt ed fa pf : Nat → Int32} (L : LwB wt ed fa pf) (s : Nat) (a : As) : (lw n B O kn wt ed fa pf s a).natAbs ≤ 150000 := by
  unfold lw
  have h1 : (wK wt fa (kn s) (a (kn s))).natAbs ≤ 1000 * 10 := mul_abs (L.1 _) (L.2.2.1 _)
  have h2 : (si n (fun o => if tbF (O s) o = true then wJ B ed pf a (kn s) o else 0)).natAbs ≤ n * 10000 := by
    refine si_abs n fun i hi => ?_
    split
    · unfold wJ
      split
      · exact mul_abs (L.2.1 _) (L.2.2.2 _)
      · exact Nat.zero_le _
    · exact Nat.zero_le _
  omega
theorem lcP_B {n : Nat} (hn : n ≤ 14) {B O kn : Nat → Nat} {op : Nat → Nat → Bool} {wt ed fa pf mn : Nat → Int32} (L : LwB wt ed fa pf) {z : Int} (hz : z.natAbs ≤ 1) (s : Nat) (a : As) : vB 1 150000 (lcP n B O kn op wt ed fa pf mn z s a) := by
  refine vB_C _ ?_
  have := mul_abs hz (lw_abs hn (B := B) (O := O) (kn := kn) L s a)
  omega
theorem Sn_1 (c : Nat) : ∀ x, Sn x (fun _ => c) = x * c := by
  intro x
  induction x with
  | zero => rw [Nat.zero_mul]; rfl
  | succ x ih => rw [Sn, ih, Nat.add_mul, Nat.one_mul]
theorem cS_1 {kn : Nat → Nat} {s : Nat} : ∀ n, kn s < n → cS (SsP kn s) n = 1 := by
  intro n
  induction n with
  | zero => intro h; omega
  | succ n ih =>
    intro h
    by_cases e : kn s = n
    · rw [cS_t (by unfold SsP; rw [decide_eq_true e.symm])]
      have : ∀ m, m ≤ kn s → cS (SsP kn s) m = 0 := by
        intro m
        induction m with
        | zero => intro _; rfl
        | succ m ihm =>
          intro hm
          rw [cS_f (by unfold SsP; rw [decide_eq_false (by omega)]; decide)]
          exact ihm (by omega)
      rw [this n (by omega)]
    · rw [cS_f (by unfold SsP; rw [decide_eq_false (fun z => e z.symm)]; decide)]
      exact ih (by omega)
theorem TP_B {n : Nat} {B kn pl O us : Nat → Nat} (hn : n ≤ 14) (P : PlD n B kn pl O us) {op : Nat → Nat → Bool} {wt ed fa pf mn : Nat → Int32} (L : LwB wt ed fa pf) {z : Int} (hz : z.natAbs ≤ 1) : (∀ i, i < n → i < us i) ∧ (∀ i, i < n → ∀ a, vB (4 ^ (i + 1)) (150000 * (i + 1)) (TP n B O kn us op wt ed fa pf mn z i a)) ∧ ∀ s, s < n → ∀ a, vB (4 ^ s) (150000 * (s + 1)) (vMul (lcP n B O kn op wt ed fa pf mn z s a) (Pr s (fun j => if us j = s then TP n B O kn us op wt ed fa pf mn z j a else va1))) := by
  have hus : ∀ i, i < n → i < us i := fun i hi => by
    rcases P.2.2.2.2 i hi with h | h
    · omega
    · exact h.2.2.1
  have hTB := Tt_B (n := n) (m := n) (S := SsP kn) (loc := lcP n B O kn op wt ed fa pf mn z) (e := fun _ => 1) (bl := fun _ => 150000) (par := us) (fun i hi => cS_1 n (P.1 i hi).1) (fun i _ a => lcP_B hn L hz i a)
  refine ⟨hus, fun i hi a => ?_, fun s hs a => ?_⟩
  · have c1 := Wt_tot (e := fun _ => 1) (par := us) (x := i) (fun j hj => hus j (by omega))
    have c2 := Wt_tot (e := fun _ => 150000) (par := us) (x := i) (fun j hj => hus j (by omega))
    rw [Sn_1] at c1 c2
    exact vB_le (hTB i hi a) (Nat.pow_le_pow_right (by decide) (by omega)) (by omega)
  · have c1 := Wt_ch (e := fun _ => 1) (x := s) (k := s) (par := us) (fun j hj => hus j (by omega)) (Nat.le_refl _)
    have c2 := Wt_ch (e := fun _ => 150000) (x := s) (k := s) (par := us) (fun j hj => hus j (by omega)) (Nat.le_refl _)
    rw [Sn_1] at c1 c2
    refine vB_le (vB_mul (lcP_B hn L hz s a) (ch_B (x := s) (a := a) (fun j hj => hTB j (by omega) a) (Nat.le_refl s))) ?_ (by omega)
    rw [Nat.one_mul]
    exact Nat.pow_le_pow_right (by decide) (by omega)
theorem asg_u (op : Nat → Nat → Bool) (p : Nat → Nat) (k q : Nat) : aU (asg op p) k (elt (op k) 4 q) = asg op (fun i => if i = k then q else p i) := by
  funext i
  show (if i = k then elt (op k) 4 q else elt (op i) 4 (p i)) = elt (op i) 4 (if i = k then q else p i)
  by_cases e : i = k
  · rw [if_pos e, if_pos e, e]
  · rw [if_neg e, if_neg e]
/-- a step's value: the sum over its knot's open states -/
theorem TP_e {n : Nat} {B kn pl O us : Nat → Nat} (P : PlD n B kn pl O us) (hus : ∀ i, i < n → i < us i) {op : Nat → Nat → Bool} {wt ed fa pf mn : Nat → Int32} {z : Int} {s : Nat} (hs : s < n) (p : Nat → Nat) : TP n B O kn us op wt ed fa pf mn z s (asg op p) = SN (ocF op (kn s)) (fun q => vMul (lcP n B O kn op wt ed fa pf mn z s (asg op (fun i => if i = kn s then q else p i))) (Pr n (fun j => if fS us s j = true then TP n B O kn us op wt ed fa pf mn z j (asg op (fun i => if i = kn s then q else p i)) else va1))) := by
  have e1 : TP n B O kn us op wt ed fa pf mn z s (asg op p) = _ := Tt_e s (asg op p)
  rw [e1, Sm_1 (S := SsP kn s) (k := kn s) (fun i => rfl) _ n _ (P.1 s hs).1, v4_SN]
  have e2 : ∀ q, vMul (lcP n B O kn op wt ed fa pf mn z s (aU (asg op p) (kn s) q)) (Pr s (fun j => if us j = s then Tt n (SsP kn) (lcP n B O kn op wt ed fa pf mn z) us j (aU (asg op p) (kn s) q) else va1)) = if op (kn s) q = true then vMul (lcP n B O kn op wt ed fa pf mn z s (aU (asg op p) (kn s) q)) (Pr n (fun j => if fS us s j = true then TP n B O kn us op wt ed fa pf mn z j (aU (asg op p) (kn s) q) else va1)) else va0 := by
    intro q
    by_cases c : op (kn s) q = true
    · rw [if_pos c]
      congr 1
      rw [Pr_tl (s := s) n (by omega) (fun i h1 h2 => if_neg (by unfold fS; rw [decide_eq_true_eq]; have := hus i h2; omega))]
      refine Pr_c s fun j hj => ?_
      unfold fS
      by_cases d : us j = s
      · rw [if_pos d, if_pos (decide_eq_true d)]; rfl
      · rw [if_neg d, if_neg (by rw [decide_eq_true_eq]; exact d)]
    · rw [if_neg c]
      have : lcP n B O kn op wt ed fa pf mn z s (aU (asg op p) (kn s) q) = none := by
        unfold lcP
        refine vC_f fun h => c ?_
        have := h.1
        rw [aU_s] at this
        exact this
      rw [this]; rfl
  rw [SN_c 4 fun q _ => e2 q, SN_el]
  refine SN_c _ fun q hq => ?_
  rw [asg_u]
theorem edges_n {n : Nat} {B : Nat → Nat} {near0 : Nat → Int32} (N : NetN n B near0) {s k m : Nat} (hs : s < 14) (hk : k < n) (zs : Int32) (wt ed fa pf mn : Nat → Int32) {oth oc : Nat → Int32} (hoc : oc s = nI (cS (tbF m) n)) (h4 : cS (tbF m) n ≤ 4) (hoth : ∀ f, f < cS (tbF m) n → oth (4 * s + f) = nI (elt (tbF m) n f)) {op : Nat → Nat → Bool} {ost ocn : Nat → Int32} (H : OpA n op ost ocn) {picks : Nat → Int32} {p : Nat → Nat} (hp : ∀ i, i < n → (m.testBit i = true ∨ i = k) → picks i = nI (p i) ∧ p i < cS (op i) 4) (ps0 : Int32) : ∃ u ps', f_X7_addEdges (nI s) (nI k) zs ps0 wt near0 ed fa pf mn oth oc ost picks = some (u, ps') ∧ ((u = 1 ∧ (∀ j, j < cS (tbF m) n → okB n B mn k m (asg op p) j) ∧ ps' = zs * Int32.ofInt (wK wt fa k (asg op p k) + si (cS (tbF m) n) (fun j => wJ B ed pf (asg op p) k (elt (tbF m) n j)))) ∨ (u = 0 ∧ ¬∀ j, j < cS (tbF m) n → okB n B mn k m (asg op p) j)) := by
  have hn := N.1
  have pk := hp k hk (Or.inr rfl)
  have a1 := asg_t (op := op) (p := p) pk.2
  unfold f_X7_addEdges
  have e2 : nI s * (4 : Int32) = nI (4 * s + 0) := by rw [← nx_s4, show nI 0 = 0 from rfl, Int32.add_zero]
  rw [cal_e (ps_n hn H hk pk), bnd_s, ld_ok _ (in14 (by omega)), cl14 (by omega), N.2.1 k, bnd_s, ld_ok _ (in14 (by omega)), cl14 (by omega), ld_ok _ (in4 a1.1), nI_clamp (by omega), bnd_s, e2, bnd_s, i32 (wt k), i32 (fa (asg op p k)), ← Int32.ofInt_mul]
  have := l_ae N hs hk zs wt ed fa pf mn hoc h4 hoth H hp (wK wt fa k (asg op p k)) ps0 NN 0 (Nat.zero_le _) (by show _ < 32768; omega) (fun j hj => by omega)
  rw [show si 0 (fun j => wJ B ed pf (asg op p) k (elt (tbF m) n j)) = 0 from rfl, Int.add_zero] at this
  exact this
theorem okB_L {n : Nat} {B O kn : Nat → Nat} {op : Nat → Nat → Bool} {mn : Nat → Int32} {s : Nat} {a : As} (h1 : op (kn s) (a (kn s)) = true) : (∀ j, j < cS (tbF (O s)) n → okB n B mn (kn s) (O s) a j) ↔ okL n B O kn op mn s a := by
  constructor
  · intro h
    refine ⟨h1, fun o ho hO hB => ?_⟩
    have hO' : tbF (O s) o = true := hO
    have := h (cS (tbF (O s)) o) (cS_lt hO' ho)
    unfold okB at this
    rw [elt_i hO' n ho] at this
    exact this hB
  · intro h j hj hB
    obtain ⟨t1, t2⟩ := elt_t n j hj
    exact h.2 _ t1 t2 hB
theorem lcP_dp {n : Nat} {B O kn : Nat → Nat} {op : Nat → Nat → Bool} {wt ed fa pf mn : Nat → Int32} {z : Int} {s : Nat} (hk : kn s < n) : Dp n (fun k => tbF (O s) k || SsP kn s k) (lcP n B O kn op wt ed fa pf mn z s) := by
  intro a b hab
  have hkn : a (kn s) = b (kn s) := hab _ hk (by show (tbF (O s) (kn s) || decide (kn s = kn s)) = true; rw [decide_eq_true rfl, Bool.or_true])
  have ho : ∀ o, o < n → (O s).testBit o = true → a o = b o := fun o h1 h2 => hab o h1 (by show ((O s).testBit o || SsP kn s o) = true; rw [h2, Bool.true_or])
  unfold lcP
  refine vC_c ?_ ?_
  · unfold okL
    rw [hkn]
    constructor
    · intro h
      refine ⟨h.1, fun o h1 h2 h3 => ?_⟩
      rw [← ho o h1 h2]; exact h.2 o h1 h2 h3
    · intro h
      refine ⟨h.1, fun o h1 h2 h3 => ?_⟩
      rw [ho o h1 h2]; exact h.2 o h1 h2 h3
  · unfold lw
    rw [hkn]
    congr 2
    refine si_c n fun o h1 => ?_
    by_cases c : tbF (O s) o = true
    · rw [if_pos c, if_pos c]
      unfold wJ
      rw [hkn, ho o h1 c]
    · rw [if_neg c, if_neg c]
theorem TP_dp {n : Nat} {B kn pl O us : Nat → Nat} (P : PlD n B kn pl O us) {op : Nat → Nat → Bool} {wt ed fa pf mn : Nat → Int32} {z : Int} : ∀ s, s < n → Dp n (tbF (O s)) (TP n B O kn us op wt ed fa pf mn z s) := by
  intro s
  induction s using Nat.strongRecOn with
  | ind s ih =>
    intro hs
    have e : TP n B O kn us op wt ed fa pf mn z s = fun a => Sm (SsP kn s) n (fun a => vMul (lcP n B O kn op wt ed fa pf mn z s a) (Pr s (fun j => if us j = s then TP n B O kn us op wt ed fa pf mn z j a else va1))) a := funext fun a => Tt_e s a
    rw [e]
    refine Dp_n (Dp_m (lcP_dp (P.1 s hs).1) (Dp_P s fun j hj => ?_))
    by_cases c : us j = s
    · have e2 : (fun a => if us j = s then TP n B O kn us op wt ed fa pf mn z j a else va1) = TP n B O kn us op wt ed fa pf mn z j := by
        funext a; rw [if_pos c]
      have := ih j hj (by omega)
      intro a b hab
      show (if us j = s then TP n B O kn us op wt ed fa pf mn z j a else va1) = if us j = s then TP n B O kn us op wt ed fa pf mn z j b else va1
      rw [if_pos c, if_pos c]
      refine this a b fun k hk hd => hab k hk ?_
      rcases P.2.2.2.2 j (by omega) with ⟨_, e⟩ | ⟨_, _, _, e⟩
      · have hd : (O j).testBit k = true := hd
        rw [e, Nat.zero_testBit] at hd; cases hd
      · have := (e k hd).2
        rw [c] at this
        show ((O s).testBit k || decide (k = kn s)) = true
        rcases this with q | q
        · rw [decide_eq_true q, Bool.or_true]
        · rw [q, Bool.true_or]
    · intro a b hab
      show (if us j = s then TP n B O kn us op wt ed fa pf mn z j a else va1) = if us j = s then TP n B O kn us op wt ed fa pf mn z j b else va1
      rw [if_neg c, if_neg c]
/-- A TABLE IS FILLED -/
theorem fillTable_n {n : Nat} {B kn pl O us : Nat → Nat} {near0 : Nat → Int32} (N : NetN n B near0) (P : PlD n B kn pl O us) {knots oth oc sc usr fe fc : Nat → Int32} (A : PlA n kn O us knots oth oc sc usr fe fc) {op : Nat → Nat → Bool} {ost ocn : Nat → Int32} (H : OpA n op ost ocn) {wt ed fa pf mn : Nat → Int32} (L : LwB wt ed fa pf) {zs : Int32} {z : Int} (hz : z.natAbs ≤ 1) (hzs : zs = Int32.ofInt z) {s : Nat} (hs : s < n) (ps : Int32) (g str su co : Nat → Int32) (hT : ∀ j, j < n → us j = s → TV n B O kn us op wt ed fa pf mn z j str su co) : ∃ ps' g' str' su' co', f_X7_fillTable (nI s) zs ps wt near0 ed fa pf mn knots oth oc fe fc ost ocn g str su co = some (ps', g', str', su', co') ∧ TV n B O kn us op wt ed fa pf mn z s str' su' co' ∧ (∀ j, ¬(4 * s ≤ j ∧ j < 4 * s + 4) → str' j = str j) ∧ ∀ i, ¬(256 * s ≤ i ∧ i < 256 * s + 256) → su' i = su i ∧ co' i = co i := by
  have hn := N.1
  obtain ⟨r1, r2, r3, r4, r5⟩ := A.1 s hs
  obtain ⟨f1, f2⟩ := A.2 s hs
  have k1 := P.1 s hs
  have o1 := P.2.2.1 s hs
  obtain ⟨hus, bT, bV⟩ := TP_B (op := op) (mn := mn) hn P L hz
  have hcn : ∀ k, k < n → ocn k = nI (ocF op k) ∧ ocF op k ≤ 4 := fun k hk => ⟨(H k hk).1, ocF_4 op k⟩
  have nk : (O s).testBit (kn s) = false := bf fun q => by have := o1.2.2 _ q; omega
  unfold f_X7_fillTable
  have e2 : nI s * (4 : Int32) = nI (4 * s + 0) := by rw [← nx_s4, show nI 0 = 0 from rfl, Int32.add_zero]
  rw [bnd_s, e2, bnd_s]
  obtain ⟨g', str', s1, s2, s3⟩ := l_f6 hn (by omega) zs wt near0 ed fa pf mn knots fe fc ost r2 o1.2.1 r3 hcn ps su co NN 0 g str (Nat.zero_le _) (by show _ < 32768; omega) (fun j hj => by omega)
  rw [rxf_0] at s1
  have hE4 : rx (tbF (O s)) (ocF op) n ≤ 256 := by
    have h2 := rx_le (D := tbF (O s)) (ocF_4 op) n
    have h3 : 4 ^ cS (tbF (O s)) n ≤ 4 ^ 4 := Nat.pow_le_pow_right (by decide) o1.2.1
    have h5 : 4 ^ 4 = 256 := rfl
    omega
  -- the feeders' tables stay
  obtain ⟨Inv, hInvD⟩ : ∃ Inv : (Nat → Int32) → (Nat → Int32) → Prop, ∀ su co, Inv su co ↔ ∀ j, j < n → us j = s → TV n B O kn us op wt ed fa pf mn z j str' su co := ⟨_, fun _ _ => Iff.rfl⟩
  have hInv : ∀ su co e x y, e < 256 → Inv su co → Inv (upd su (256 * s + e) x) (upd co (256 * s + e) y) := by
    intro su co e x y he hI
    rw [hInvD] at hI ⊢
    intro j hj hu
    have := hus j hj
    exact TV_k (P.2.2.1 j hj).2.1 (hI j hj hu) (fun _ _ => rfl) (fun i hi => ⟨up_n (by omega), up_n (by omega)⟩)
  have hI0 : Inv su co := by
    rw [hInvD]
    intro j hj hu
    have := hus j hj
    exact TV_k (P.2.2.1 j hj).2.1 (hT j hj hu) (fun i hi => s3 _ (by omega)) (fun i hi => ⟨rfl, rfl⟩)
  have hfe : ∀ p g ps su co, Inv su co → PkV n (O s) (ocF op) p g → ∃ bs' bc' ps' g', f_X7_fillEntry (nI s) (nI (256 * s + ix (tbF (O s)) (ocF op) p n)) zs ps wt near0 ed fa pf mn knots oth oc fe fc ost ocn g str' su co = some (ps', g', upd su (256 * s + ix (tbF (O s)) (ocF op) p n) bs', upd co (256 * s + ix (tbF (O s)) (ocF op) p n) bc') ∧ PkV n (O s) (ocF op) p g' ∧ Ce bs' bc' (TP n B O kn us op wt ed fa pf mn z s (asg op p)) := by
    intro p g ps su co hI hg
    rw [hInvD] at hI
    have hix := ix_256 (op := op) o1.2.1 (fun k hk hd => (hg k hk hd).2)
    rw [TP_e P hus hs p]
    unfold f_X7_fillEntry
    rw [ld_ok _ (in14 (by omega)), cl14 (by omega), r1, bnd_s, bnd_s, bnd_s, bnd_s]
    have h13 : 4 ^ s ≤ 4 ^ 13 := Nat.pow_le_pow_right (by decide) (by omega)
    obtain ⟨bs', bc', ps', g', q1, q2, q3⟩ := l_fe (s := s) hn k1.1 zs wt near0 ed fa pf mn knots oth oc fe fc ost ocn str' (hcn _ k1.1).1 (ocF_4 op _) (at' := 256 * s + ix (tbF (O s)) (ocF op) p n) (by omega) (val := fun q => vMul (lcP n B O kn op wt ed fa pf mn z s (asg op (fun i => if i = kn s then q else p i))) (Pr n (fun j => if fS us s j = true then TP n B O kn us op wt ed fa pf mn z j (asg op (fun i => if i = kn s then q else p i)) else va1))) (M := 4 ^ 13) (β := 2250000) (by decide) (by decide) (fun q hq => by
      refine vB_le (v := 4 ^ 13) (γ := 2250000) ?_ (Nat.le_refl _) (Nat.le_refl _)
      have := bV s hs (asg op (fun i => if i = kn s then q else p i))
      have e : Pr n (fun j => if fS us s j = true then TP n B O kn us op wt ed fa pf mn z j (asg op (fun i => if i = kn s then q else p i)) else va1) = Pr s (fun j => if us j = s then TP n B O kn us op wt ed fa pf mn z j (asg op (fun i => if i = kn s then q else p i)) else va1) := by
        rw [Pr_tl (s := s) n (by omega) (fun i h1 h2 => if_neg (by unfold fS; rw [decide_eq_true_eq]; have := hus i h2; omega))]
        refine Pr_c s fun j hj => ?_
        unfold fS
        by_cases d : us j = s
        · rw [if_pos d, if_pos (decide_eq_true d)]
        · rw [if_neg d, if_neg (by rw [decide_eq_true_eq]; exact d)]
      rw [e]
      exact vB_le this h13 (by omega)) (Pk := PkV n (O s) (ocF op) p) (fun g x hg k hk hd => by
      have : k ≠ kn s := fun q => by rw [q, nk] at hd; cases hd
      rw [up_n this]; exact hg k hk hd) su co (fun q hq g ps hg => by
      have hpv : ∀ i, i < n → ((O s).testBit i = true ∨ i = kn s) → upd g (kn s) (nI q) i = nI ((fun i => if i = kn s then q else p i) i) ∧ (fun i => if i = kn s then q else p i) i < cS (op i) 4 := by
        intro i hi hd
        show upd g (kn s) (nI q) i = nI (if i = kn s then q else p i) ∧ (if i = kn s then q else p i) < cS (op i) 4
        by_cases e : i = kn s
        · rw [if_pos e, e, up_e]; exact ⟨rfl, hq⟩
        · rw [if_neg e, up_n e]
          rcases hd with d | d
          · exact hg i hi d
          · exact absurd d e
      have ak := asg_t (op := op) (p := fun i => if i = kn s then q else p i) (k := kn s) (hpv _ k1.1 (Or.inr rfl)).2
      obtain ⟨u, ps1, h1, h2⟩ := edges_n N (by omega) k1.1 zs wt ed fa pf mn r2 o1.2.1 r3 H hpv ps
      refine ⟨u, ps1, h1, ?_⟩
      rcases h2 with ⟨h2, h3, h5⟩ | ⟨h2, h3⟩
      · right
        refine ⟨by rw [h2]; decide, ?_⟩
        have hl : lcP n B O kn op wt ed fa pf mn z s (asg op (fun i => if i = kn s then q else p i)) = some (1, z * lw n B O kn wt ed fa pf s (asg op (fun i => if i = kn s then q else p i)), 1) := vC_t ((okB_L ak.2).mp h3)
        have hCe : Ce ps1 1 (lcP n B O kn op wt ed fa pf mn z s (asg op (fun i => if i = kn s then q else p i))) := by
          rw [hl]
          refine ⟨fun e => (by cases e), fun C X M e => ?_⟩
          cases e
          rw [h5, hzs, ← Int32.ofInt_mul]
          refine ⟨?_, rfl⟩
          unfold lw
          rw [si_el]
        refine tables_n hn hs f1 f2 (at' := fun j => 256 * j + ix (tbF (O j)) (ocF op) (fun i => if i = kn s then q else p i) n) (M := 4 ^ 13) (β := 2250000) (by decide) (fun j hj hu => ?_) hCe
        have hu : us j = s := by unfold fS at hu; rw [decide_eq_true_eq] at hu; exact hu
        obtain ⟨b1, b2, b3, b4, b5⟩ := A.1 j hj
        have c1 := P.2.2.1 j hj
        have hjs := hus j hj
        have hsub : ∀ i, i < n → (O j).testBit i = true → (O s).testBit i = true ∨ i = kn s := by
          intro i hi hd
          rcases P.2.2.2.2 j hj with ⟨_, e⟩ | ⟨_, _, _, e⟩
          · rw [e, Nat.zero_testBit] at hd; cases hd
          · have := (e i hd).2
            rw [hu] at this
            exact this.symm
        have hv : ∀ i, i < n → (O j).testBit i = true → (if i = kn s then q else p i) < ocF op i := fun i hi hd => (hpv i hi (hsub i hi hd)).2
        have hx := ix_256 (op := op) (p := fun i => if i = kn s then q else p i) c1.2.1 hv
        refine ⟨entry_n hn (by omega) b2 c1.2.1 b3 (hI j hj hu).1 (fun i hi hd => (hpv i hi (hsub i hi hd)).1), ?_, (hI j hj hu).2 _ hv, ?_⟩
        · show 256 * j + ix (tbF (O j)) (ocF op) (fun i => if i = kn s then q else p i) n < 3584
          omega
        · exact vB_le (bT j hj _) (Nat.pow_le_pow_right (by decide) (by omega)) (by omega)
      · left
        refine ⟨h2, ?_⟩
        have hl : lcP n B O kn op wt ed fa pf mn z s (asg op (fun i => if i = kn s then q else p i)) = none := vC_f fun h => h3 ((okB_L ak.2).mpr h)
        show vMul (lcP n B O kn op wt ed fa pf mn z s (asg op (fun i => if i = kn s then q else p i))) _ = none
        rw [hl]; rfl) NN 0 0 0 ps g (Nat.zero_le _) (by have := ocF_4 op (kn s); show _ < 32768; omega) hg ⟨fun _ => rfl, fun _ _ _ e => nomatch e⟩
    exact ⟨bs', bc', ps', g', q1, q2, q3⟩
  have hp0 : 0 < rx (tbF (O s)) (ocF op) n → ∃ p, PkV n (O s) (ocF op) p g' ∧ ix (tbF (O s)) (ocF op) p n = 0 := by
    intro hE
    refine ⟨fun _ => 0, fun k hk hd => ⟨?_, rx_pos n hE k hk hd⟩, ix_0 n⟩
    have hd' : tbF (O s) k = true := hd
    have := (s2 _ (cS_lt hd' hk)).2
    rw [elt_i hd' n hk] at this
    exact this
  obtain ⟨ps', g2, su', co', t1, t2, t3⟩ := l_ft hn (show s < 14 by omega) zs wt near0 ed fa pf mn knots fe fc ost str' r2 o1.2.1 r3 hcn rfl hE4 (Tv := fun p => TP n B O kn us op wt ed fa pf mn z s (asg op p)) (fun p p' hpp => TP_dp P s hs _ _ fun k hk hd => by unfold asg; rw [hpp k hk hd]) hInv hfe NN 0 ps g' su co (Nat.zero_le _) (by show _ < 32768; omega) hp0 hI0 (fun p _ h => absurd h (Nat.not_lt_zero _))
  exact ⟨ps', g2, str', su', co', s1.trans t1, ⟨fun f hf => (s2 f hf).1, t2⟩, s3, t3⟩
