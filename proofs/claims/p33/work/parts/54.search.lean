/-! The search for the least width. -/
theorem lgc0 (x : Int64) : lg_cmp x 0 = 0 ↔ x = 0 := by
  unfold lg_cmp
  by_cases h : x > 0
  · rw [if_pos h]
    constructor
    · intro z; exact absurd z (by decide)
    · intro z; subst z; exact absurd h (by decide)
  · rw [if_neg h]
    by_cases e : x = 0
    · rw [if_pos e]; exact ⟨fun _ => e, fun _ => rfl⟩
    · rw [if_neg e]; exact ⟨fun z => absurd z (by decide), fun z => absurd z e⟩
theorem s64 : ∀ k, k < 64 → (((nI k).toInt64 &&& 63).toBitVec.smod 64).toNat = k := by decide +kernel
theorem m63 (S : Nat) : nI S &&& (63 : Int32) = nI (S % 64) := by
  show nI S &&& nI 63 = _
  rw [nx_and]
  congr 1
  exact Nat.and_two_pow_sub_one_eq_mod S 6
theorem bit64 (v : Int64) {j : Nat} (hj : j < 64) : ((v >>> ((nI j).toInt64 &&& 63)) &&& (1 : Int64)) = 0 ↔ v.toBitVec.getLsbD j = false := by
  rw [← Int64.toBitVec_inj, Int64.toBitVec_and, Int64.toBitVec_shiftRight]
  have e : (v.toBitVec.sshiftRight' (((nI j).toInt64 &&& 63).toBitVec.smod 64)).getLsbD 0 = v.toBitVec.getLsbD j := by
    show (v.toBitVec.sshiftRight (((nI j).toInt64 &&& 63).toBitVec.smod 64).toNat).getLsbD 0 = _
    rw [s64 j hj, BitVec.getLsbD_sshiftRight]
    simp [hj]
  rw [← e]
  clear e
  generalize v.toBitVec.sshiftRight' (((nI j).toInt64 &&& 63).toBitVec.smod 64) = y
  show y &&& 1#64 = 0#64 ↔ y.getLsbD 0 = false
  constructor
  · intro h
    have t := congrArg (fun x => x.getLsbD 0) h
    simpa using t
  · intro h
    apply BitVec.eq_of_getLsbD_eq
    intro i hi
    cases i with
    | zero => rw [BitVec.getLsbD_and, h]; simp
    | succ i => simp
theorem shl64 : ∀ k, k < 64 → ((1 : Int64) <<< ((nI k).toInt64 &&& 63)).toBitVec = BitVec.twoPow 64 k := by decide +kernel
theorem bit64_or (v : Int64) {j i : Nat} (hj : j < 64) (hi : i < 64) : (v ||| ((1 : Int64) <<< ((nI j).toInt64 &&& 63))).toBitVec.getLsbD i = (v.toBitVec.getLsbD i || decide (i = j)) := by
  rw [Int64.toBitVec_or, BitVec.getLsbD_or, shl64 j hj, BitVec.getLsbD_twoPow]
  by_cases e : i = j
  · subst e; simp [hi]
  · simp [e]
    intro _ h; exact absurd h.symm e
/-- whether a set is marked -/
def SB (stuck : Nat → Int64) (S : Nat) : Bool := (stuck (S / 64)).toBitVec.getLsbD (S % 64)
theorem sh6n {S : Nat} (h : S < 16384) : nI S >>> ((6 : Int32) &&& 31) = nI (S / 64) := pk_shrN (by omega) ((6 : Int32) &&& 31) 6 (by decide)
theorem in256 {k : Nat} (h : k < 256) : okI (nI k) 256 := nI_in (c := k) (N := 256) h (by decide)
theorem isStuck_n {S : Nat} (h : S < 16384) (stuck : Nat → Int64) : f_X6_isStuck (nI S) stuck = some (if SB stuck S = true then 1 else 0) := by
  unfold f_X6_isStuck
  rw [sh6n h, ld_ok _ (in256 (by omega)), nI_clamp (by omega), m63]
  have hj : S % 64 < 64 := Nat.mod_lt _ (by decide)
  by_cases c : SB stuck S = true
  · rw [if_neg (fun z => by rw [lgc0, bit64 _ hj] at z; unfold SB at c; rw [z] at c; cases c), if_pos c]
  · rw [if_pos (by rw [lgc0, bit64 _ hj]; exact bf c), if_neg c]
theorem SB_upd {stuck : Nat → Int64} {S T : Nat} (h : SB (vp_updL stuck (S / 64) (stuck (S / 64) ||| ((1 : Int64) <<< ((nI (S % 64)).toInt64 &&& 63)))) T = true) : SB stuck T = true ∨ T = S := by
  unfold SB at h ⊢
  by_cases e : T / 64 = S / 64
  · rw [e, pk_uLs, bit64_or _ (Nat.mod_lt _ (by decide)) (Nat.mod_lt _ (by decide)), Bool.or_eq_true, decide_eq_true_iff] at h
    rcases h with z | z
    · rw [e]; exact Or.inl z
    · right; omega
  · rw [pk_uLn e] at h; exact Or.inl h
/-! Whether a knot is harmless. -/
def mxN (g : Nat → Nat) : Nat → Nat
  | 0 => 0
  | k + 1 => if mxN g k < g k then g k else mxN g k
theorem sm_le {g h : Nat → Nat} {k : Nat} (e : ∀ i, i < k → g i ≤ h i) : sm g k ≤ sm h k := by
  induction k with
  | zero => exact Nat.le_refl _
  | succ k ih =>
    have h1 := ih (fun i hi => e i (by omega))
    have h2 := e k (by omega)
    unfold sm; omega
theorem sm_bd {g : Nat → Nat} {k c : Nat} (e : ∀ i, i < k → g i ≤ c) : sm g k ≤ k * c := by
  induction k with
  | zero => exact Nat.zero_le _
  | succ k ih =>
    have h1 := ih (fun i hi => e i (by omega))
    have h2 := e k (by omega)
    unfold sm
    rw [Nat.succ_mul]; omega
theorem sm_add (g h : Nat → Nat) (k : Nat) : sm (fun i => g i + h i) k = sm g k + sm h k := by
  induction k with
  | zero => rfl
  | succ k ih => show sm (fun i => g i + h i) k + (g k + h k) = (sm g k + g k) + (sm h k + h k); omega
theorem sm_one {a c : Nat} : ∀ k, a < k → sm (fun i => if i = a then c else 0) k = c := by
  intro k
  induction k with
  | zero => intro h; omega
  | succ k ih =>
    intro h
    show sm (fun i => if i = a then c else 0) k + (if k = a then c else 0) = c
    by_cases e : k = a
    · subst e
      rw [if_pos rfl]
      have : sm (fun i => if i = k then c else 0) k = 0 := by
        have := sm_bd (g := fun i => if i = k then c else 0) (k := k) (c := 0) (fun i hi => by rw [if_neg (by omega)]; exact Nat.le_refl _)
        omega
      omega
    · rw [if_neg e, ih (by omega)]; rfl
theorem sm_pc (m k : Nat) : sm (fun i => if m.testBit i = true then 1 else 0) k = pcU k m := by
  induction k with
  | zero => rfl
  | succ k ih => show _ + (if m.testBit k = true then 1 else 0) = pcU k m + (if m.testBit k = true then 1 else 0); rw [ih]
theorem mxN_le {g : Nat → Nat} {k c : Nat} (e : ∀ i, i < k → g i ≤ c) : mxN g k ≤ c := by
  induction k with
  | zero => exact Nat.zero_le _
  | succ k ih =>
    have h1 := ih (fun i hi => e i (by omega))
    have h2 := e k (by omega)
    unfold mxN; split <;> omega
theorem mxN_at {g : Nat → Nat} : ∀ k, mxN g k = 0 ∨ ∃ u, u < k ∧ g u = mxN g k := by
  intro k
  induction k with
  | zero => exact Or.inl rfl
  | succ k ih =>
    unfold mxN
    by_cases c : mxN g k < g k
    · rw [if_pos c]; exact Or.inr ⟨k, by omega, rfl⟩
    · rw [if_neg c]
      rcases ih with z | ⟨u, z1, z2⟩
      · exact Or.inl z
      · exact Or.inr ⟨u, by omega, z2⟩
theorem mxN_ge {g : Nat → Nat} : ∀ k i, i < k → g i ≤ mxN g k := by
  intro k
  induction k with
  | zero => intro i h; omega
  | succ k ih =>
    intro i h
    unfold mxN
    by_cases e : i = k
    · subst e; split <;> omega
    · have := ih i (by omega); split <;> omega
def njG (A : Nat → Nat) (s i : Nat) : Nat := if s.testBit i = true then pcN (frA A s i) else 0
theorem njG_le (A : Nat → Nat) (s i : Nat) : njG A s i ≤ 14 := by
  unfold njG; split
  · exact pcN_le _
  · omega
theorem l_nj {near : Nat → Int32} {A : Nat → Nat} {s : Nat} (hs : s < 16384) (R : RA near A) : ∀ (f j : Nat), j ≤ 14 → 14 - j < f → L_X1_isNearlyJoined_7 (nI s) near f (nI (sm (njG A s) j)) (nI (mxN (njG A s) j)) (nI j) = some (if sm (njG A s) 14 = 2 * mxN (njG A s) 14 then 1 else 0) := by
  intro f
  induction f with
  | zero => intro j h1 h2; omega
  | succ f ih =>
    intro j hj hf
    rw [L_X1_isNearlyJoined_7]
    rcases Nat.lt_or_ge j 14 with h | h
    · rw [if_neg (ge14 h)]
      have := ih (j + 1) (by omega) (by omega)
      have hb := mxN_le (g := njG A s) (k := j) (c := 14) (fun i _ => njG_le A s i)
      by_cases b : s.testBit j = true
      · have eg : njG A s j = pcN (frA A s j) := if_pos b
        have hp := pcN_le (frA A s j)
        rw [cal_e (hasB1 hs h b), if_neg n10, ld_ok _ (in14 h), cl14 h, (R j h).1, nx_bit1 j (by omega), nx_nd, nx_nd, cal_e (bitCount_n (m := nd (nd s (A j)) (2 ^ j)) (frA_lt (A := A) hs j)), bnd_s, bnd_s, nI_add, bnd_s, bnd_s, nI_1]
        have e1 : sm (njG A s) j + pcN (nd (nd s (A j)) (2 ^ j)) = sm (njG A s) (j + 1) := by
          show _ = sm (njG A s) j + njG A s j
          rw [eg]; rfl
        have e2 : (if nI (mxN (njG A s) j) < nI (pcN (nd (nd s (A j)) (2 ^ j))) then nI (pcN (nd (nd s (A j)) (2 ^ j))) else nI (mxN (njG A s) j)) = nI (mxN (njG A s) (j + 1)) := by
          show _ = nI (if mxN (njG A s) j < njG A s j then njG A s j else mxN (njG A s) j)
          rw [eg]
          show (if nI (mxN (njG A s) j) < nI (pcN (frA A s j)) then nI (pcN (frA A s j)) else _) = _
          rcases Nat.lt_or_ge (mxN (njG A s) j) (pcN (frA A s j)) with c | c
          · rw [if_pos (nI_lt c (by omega)), if_pos c]
          · rw [if_neg (nI_nlt c (by omega)), if_neg (by omega)]
        rw [e1, e2]
        exact this
      · have eg : njG A s j = 0 := if_neg b
        have e1 : sm (njG A s) (j + 1) = sm (njG A s) j := by
          show sm (njG A s) j + njG A s j = _
          rw [eg]; rfl
        have e2 : mxN (njG A s) (j + 1) = mxN (njG A s) j := by
          show (if mxN (njG A s) j < njG A s j then njG A s j else mxN (njG A s) j) = _
          rw [eg, if_neg (by omega)]
        rw [e1, e2] at this
        rw [cal_e (hasB0 hs h (bf b)), if_pos rfl, bnd_s, nI_1]
        exact this
    · have e : j = 14 := by omega
      subst e
      have h1 := sm_bd (g := njG A s) (k := 14) (c := 14) (fun i _ => njG_le A s i)
      have h2 := mxN_le (g := njG A s) (k := 14) (c := 14) (fun i _ => njG_le A s i)
      rw [if_pos le14, show (2 : Int32) * nI (mxN (njG A s) 14) = nI (2 * mxN (njG A s) 14) from pk_mul 2 _]
      by_cases c : sm (njG A s) 14 = 2 * mxN (njG A s) 14
      · rw [if_pos c, if_pos (by rw [c])]
      · rw [if_neg c, if_neg (fun z => c ((nI_eq (by omega) (by omega)).mp z))]
theorem nj_n {near : Nat → Int32} {A : Nat → Nat} {s : Nat} (hs : s < 16384) (R : RA near A) : f_X1_isNearlyJoined (nI s) near = some (if sm (njG A s) 14 = 2 * mxN (njG A s) 14 then 1 else 0) := by
  unfold f_X1_isNearlyJoined
  rw [bnd_s, bnd_s, bnd_s]
  exact l_nj hs R NN 0 (by omega) (by decide)
theorem pc_one {m a : Nat} (hm : m < 2 ^ 32) (ha : a < 14) (h : m.testBit a = true) : 1 ≤ pcN m := by
  have := pcN_del hm ha h; omega
theorem pc_two {m a b : Nat} (hm : m < 2 ^ 32) (ha : a < 14) (hb : b < 14) (hab : a ≠ b) (h : m.testBit a = true) (h2 : m.testBit b = true) : 2 ≤ pcN m := by
  have h3 := pcN_del hm ha h
  have h4 := pc_one (m := nd m (2 ^ a)) (a := b) (Nat.lt_of_le_of_lt (nd_le _ _) hm) hb ((nd2_t hm).mpr ⟨h2, hab⟩)
  omega
/-- all pairs that lack meet in one knot -/
theorem nj_sem {A : Nat → Nat} {s : Nat} (hs : s < 16384) (hsym : ∀ a b, s.testBit a = true → s.testBit b = true → (A a).testBit b = true → (A b).testBit a = true) (h : sm (njG A s) 14 = 2 * mxN (njG A s) 14) : ∃ u, (u = 14 ∨ s.testBit u = true) ∧ ∀ x y, s.testBit x = true → s.testBit y = true → x ≠ u → y ≠ u → x ≠ y → (A x).testBit y = true := by
  have fr_t : ∀ k i, (frA A s k).testBit i = true ↔ (s.testBit i = true ∧ (A k).testBit i = false ∧ k ≠ i) := by
    intro k i
    unfold frA
    rw [nd2_t (Nat.lt_trans (nd2_lt hs _) (by decide)), nd_t (by omega)]
    exact ⟨fun ⟨⟨a, b⟩, c⟩ => ⟨a, b, c⟩, fun ⟨a, b, c⟩ => ⟨⟨a, b⟩, c⟩⟩
  have fl : ∀ k, frA A s k < 2 ^ 32 := fun k => Nat.lt_trans (frA_lt hs k) (by decide)
  rcases mxN_at (g := njG A s) 14 with z | ⟨u, u1, u2⟩
  · refine ⟨14, Or.inl rfl, fun x y hx hy _ _ xy => ?_⟩
    by_cases c : (A x).testBit y = true
    · exact c
    · exfalso
      have h1 := mxN_ge (g := njG A s) 14 x (tb_lt hs hx)
      have h2 : njG A s x = pcN (frA A s x) := if_pos hx
      have h3 := pc_one (fl x) (tb_lt hs hy) ((fr_t x y).mpr ⟨hy, bf c, xy⟩)
      omega
  · by_cases z : mxN (njG A s) 14 = 0
    · refine ⟨14, Or.inl rfl, fun x y hx hy _ _ xy => ?_⟩
      by_cases c : (A x).testBit y = true
      · exact c
      · exfalso
        have h1 := mxN_ge (g := njG A s) 14 x (tb_lt hs hx)
        have h2 : njG A s x = pcN (frA A s x) := if_pos hx
        have h3 := pc_one (fl x) (tb_lt hs hy) ((fr_t x y).mpr ⟨hy, bf c, xy⟩)
        omega
    · have su : s.testBit u = true := by
        by_cases c : s.testBit u = true
        · exact c
        · exfalso
          have : njG A s u = 0 := if_neg c
          omega
      refine ⟨u, Or.inr su, fun x y hx hy xu yu xy => ?_⟩
      by_cases c : (A x).testBit y = true
      · exact c
      · exfalso
        have gu : njG A s u = pcN (frA A s u) := if_pos su
        have cy : ¬ (A y).testBit x = true := fun w => c (hsym y x hy hx w)
        have swp : ∀ k, (frA A s u).testBit k = true → (frA A s k).testBit u = true := by
          intro k hk
          obtain ⟨a, b, d⟩ := (fr_t u k).mp hk
          refine (fr_t k u).mpr ⟨su, bf fun w => ?_, fun w => d w.symm⟩
          rw [hsym k u a su w] at b; cases b
        have key : sm (fun i => ((if i = u then njG A s u else 0) + (if (frA A s u).testBit i = true then 1 else 0)) + ((if i = x then 1 else 0) + (if i = y then 1 else 0))) 14 ≤ sm (njG A s) 14 := by
          refine sm_le fun i hi => ?_
          by_cases iu : i = u
          · subst iu
            rw [if_pos rfl, if_neg (fun w => ((fr_t i i).mp w).2.2 rfl), if_neg (fun w => xu w.symm), if_neg (fun w => yu w.symm)]
            omega
          · rw [if_neg iu]
            by_cases ix : i = x
            · subst ix
              have gi : njG A s i = pcN (frA A s i) := if_pos hx
              have b1 := (fr_t i y).mpr ⟨hy, bf c, xy⟩
              rw [if_pos rfl, if_neg xy, gi]
              by_cases q : (frA A s u).testBit i = true
              · rw [if_pos q]
                have := pc_two (fl i) (tb_lt hs hy) u1 yu b1 (swp i q)
                omega
              · rw [if_neg q]
                have := pc_one (fl i) (tb_lt hs hy) b1
                omega
            · rw [if_neg ix]
              by_cases iy : i = y
              · subst iy
                have gi : njG A s i = pcN (frA A s i) := if_pos hy
                have b1 := (fr_t i x).mpr ⟨hx, bf cy, fun w => xy w.symm⟩
                rw [if_pos rfl, gi]
                by_cases q : (frA A s u).testBit i = true
                · rw [if_pos q]
                  have := pc_two (fl i) (tb_lt hs hx) u1 xu b1 (swp i q)
                  omega
                · rw [if_neg q]
                  have := pc_one (fl i) (tb_lt hs hx) b1
                  omega
              · rw [if_neg iy]
                by_cases q : (frA A s u).testBit i = true
                · have si := ((fr_t u i).mp q).1
                  have gi : njG A s i = pcN (frA A s i) := if_pos si
                  rw [if_pos q, gi]
                  have := pc_one (fl i) u1 (swp i q)
                  omega
                · rw [if_neg q]; omega
        rw [sm_add, sm_add, sm_add, sm_one 14 u1, sm_one 14 (tb_lt hs hx), sm_one 14 (tb_lt hs hy), sm_pc] at key
        have : pcU 14 (frA A s u) = pcN (frA A s u) := rfl
        omega
theorem l_harm {left : Nat} {near : Nat → Int32} {A : Nat → Nat} (lim : Int32) (hl : left < 16384) (R : RA near A) : ∀ (f j : Nat), j ≤ 14 → 14 - j < f → L_X1_harmless_2 lim (nI left) near f (nI j) = some (-1) ∨ ∃ k, k < 14 ∧ L_X1_harmless_2 lim (nI left) near f (nI j) = some (nI k) ∧ left.testBit k = true ∧ (pcN (A k) : Int) ≤ lim.toInt ∧ sm (njG A (A k)) 14 = 2 * mxN (njG A (A k)) 14 := by
  intro f
  induction f with
  | zero => intro j h1 h2; omega
  | succ f ih =>
    intro j hj hf
    rw [L_X1_harmless_2]
    rcases Nat.lt_or_ge j 14 with h | h
    · rw [if_neg (ge14 h)]
      have := ih (j + 1) (by omega) (by omega)
      by_cases b : left.testBit j = true
      · rw [cal_e (hasB1 hl h b), if_neg n10, ld_ok _ (in14 h), cl14 h, (R j h).1, cal_e (bitCount_n (R j h).2)]
        have hp := pcN_le (A j)
        by_cases c : lim < nI (pcN (A j))
        · rw [if_pos c, bnd_s, nI_1]; exact this
        · rw [if_neg c, ld_ok _ (in14 h), cl14 h, (R j h).1, cal_e (nj_n (R j h).2 R)]
          by_cases q : sm (njG A (A j)) 14 = 2 * mxN (njG A (A j)) 14
          · rw [if_pos q, if_neg n10]
            refine Or.inr ⟨j, h, rfl, b, ?_, q⟩
            have := nlt c
            rw [nI_toInt (by omega)] at this
            exact this
          · rw [if_neg q, if_pos rfl, bnd_s, nI_1]; exact this
      · rw [cal_e (hasB0 hl h (bf b)), if_pos rfl, bnd_s, nI_1]; exact this
    · have e : j = 14 := by omega
      subst e
      rw [if_pos le14]
      exact Or.inl rfl
theorem harm_g {n : Nat} {B : Nat → Nat} {ar : Nat → Nat → Nat} (Ar : ArS n B ar) (hn : n ≤ 14) {G : Nat} {left : Int32} {near : Nat → Int32} (lim : Int32) (S : GS n ar G left near) : f_X1_harmless lim left near = some (-1) ∨ ∃ h, h < n ∧ f_X1_harmless lim left near = some (nI h) ∧ G.testBit h = false ∧ (pcN (ar G h) : Int) ≤ lim.toInt ∧ (FitG n ar lim.toInt G ↔ FitG n ar lim.toInt (G ||| 2 ^ h)) := by
  obtain ⟨hG, rfl, R⟩ := S
  unfold f_X1_harmless
  rw [bnd_s]
  rcases l_harm lim (lm_lt hn G) R NN 0 (by omega) (by decide) with z | ⟨h, h1, h2, h3, h4, h5⟩
  · exact Or.inl z
  · right
    obtain ⟨q1, q2⟩ := (lm_t hn).mp h3
    have eg : gA n ar G h = ar G h := if_pos h3
    rw [eg] at h4 h5
    have hl := ar_lt Ar hn hG q1
    have inl : ∀ i, (ar G h).testBit i = true → gA n ar G i = ar G i := fun i hi => by
      have := Ar.1 G h i hG q1 hi
      exact gA_in hn this.1 this.2.2
    obtain ⟨u, u1, u2⟩ := nj_sem hl (fun a b ha hb hab => by
      have a1 := Ar.1 G h a hG q1 ha
      rw [inl a ha] at hab
      rw [inl b hb]
      exact Ar.2.1 G a b hG a1.1 a1.2.2 hab) h5
    have uh : u ≠ h := by
      rcases u1 with z | z
      · omega
      · exact (Ar.1 G h u hG q1 z).2.1
    have gu : G.testBit u = false := by
      rcases u1 with z | z
      · rw [z]; exact Nat.testBit_lt_two_pow (Nat.lt_of_lt_of_le hG (Nat.pow_le_pow_right (by decide) hn))
      · exact (Ar.1 G h u hG q1 z).2.2
    refine ⟨h, q1, h2, q2, h4, fun F => harm Ar hn q1 uh ⟨hG, q2, gu, fun hu => ?_, fun k w hk hw ku wu kw => ?_⟩ F, fun F => FitG_step q1 q2 h4 F⟩
    · rcases u1 with z | z
      · omega
      · exact z
    · have := u2 k w hk hw ku wu kw
      rw [inl k hk] at this
      exact this
