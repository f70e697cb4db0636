theorem si_perm {n : Nat} {kn pl : Nat → Nat} (h1 : ∀ s, s < n → kn s < n ∧ pl (kn s) = s) (h2 : ∀ k, k < n → pl k < n ∧ kn (pl k) = k) (f : Nat → Int) : si n (fun s => f (kn s)) = si n f := by
  have e1 : ∀ s, s < n → f (kn s) = si n (fun k => if decide (k = kn s) = true then f (kn s) else 0) := by
    intro s hs
    rw [si_one n (p := fun k => decide (k = kn s)) (fun i j _ _ hi hj => by rw [decide_eq_true_eq] at hi hj; omega), if_pos]
    rw [List.any_eq_true]
    exact ⟨kn s, List.mem_range.mpr (h1 s hs).1, decide_eq_true rfl⟩
  rw [si_c n e1]
  rw [si_s (fun s k => if decide (k = kn s) = true then f (kn s) else 0) n n]
  refine si_c n fun k hk => ?_
  have e2 : ∀ s, s < n → (if decide (k = kn s) = true then f (kn s) else 0) = if decide (s = pl k) = true then f k else 0 := by
    intro s hs
    by_cases c : k = kn s
    · rw [if_pos (decide_eq_true c), if_pos (decide_eq_true (by rw [c]; exact (h1 s hs).2.symm)), c]
    · rw [if_neg (by rw [decide_eq_true_eq]; exact c), if_neg (by rw [decide_eq_true_eq]; exact fun z => c (by rw [z]; exact (h2 k hk).2.symm))]
  rw [si_c n e2, si_one n (p := fun s => decide (s = pl k)) (fun i j _ _ hi hj => by rw [decide_eq_true_eq] at hi hj; omega), if_pos]
  rw [List.any_eq_true]
  exact ⟨pl k, List.mem_range.mpr (h2 k hk).1, decide_eq_true rfl⟩
theorem dbl {n : Nat} {w : Nat → Nat → Int} {r : Nat → Nat} (hw : ∀ k j, k < n → j < n → w k j = w j k) (h0 : ∀ k, w k k = 0) (hr : ∀ k j, k < n → j < n → r k = r j → k = j) : si n (fun k => si n (fun j => if r k < r j then w k j else 0)) + si n (fun k => si n (fun j => if r k < r j then w k j else 0)) = si n (fun k => si n (fun j => w k j)) := by
  have e1 : si n (fun k => si n (fun j => if r k < r j then w k j else 0)) = si n (fun k => si n (fun j => if r j < r k then w k j else 0)) := by
    rw [si_s (fun k j => if r k < r j then w k j else 0) n n]
    refine si_c n fun k hk => si_c n fun j hj => ?_
    rw [hw j k hj hk]
  have e2 : si n (fun k => si n (fun j => w k j)) = si n (fun k => si n (fun j => if r k < r j then w k j else 0)) + si n (fun k => si n (fun j => if r j < r k then w k j else 0)) := by
    rw [← si_a]
    refine si_c n fun k hk => ?_
    rw [← si_a]
    refine si_c n fun j hj => ?_
    rcases Nat.lt_trichotomy (r k) (r j) with c | c | c
    · rw [if_pos c, if_neg (by omega)]; omega
    · have := hr k j hk hj c
      subst this
      rw [h0, if_neg (by omega)]; rfl
    · rw [if_neg (by omega), if_pos c]; omega
  rw [e2, ← e1]
theorem si_cut {f : Nat → Int} {k : Nat} : ∀ n, k ≤ n → si n (fun j => if j < k then f j else 0) = si k f := by
  intro n
  induction n with
  | zero => intro h; rw [show k = 0 by omega]; rfl
  | succ n ih =>
    intro h
    by_cases e : k = n + 1
    · rw [e]
      exact si_c _ fun j hj => if_pos hj
    · rw [si, ih (by omega), if_neg (by omega), Int.add_zero]
/-- laws are the same both ways round -/
def Sy (n : Nat) (B : Nat → Nat) (ed pf mn : Nat → Int32) : Prop := (∀ k j, k < n → j < n → (B k).testBit j = true → ed (14 * k + j) = ed (14 * j + k)) ∧ (∀ s t, s < 4 → t < 4 → pf (4 * s + t) = pf (4 * t + s)) ∧ ∀ s t, s < 4 → t < 4 → mn (4 * s + t) = mn (4 * t + s)
theorem wJ_s {n : Nat} {B : Nat → Nat} {near0 : Nat → Int32} (N : NetN n B near0) {ed pf mn : Nat → Int32} (Y : Sy n B ed pf mn) {a : As} (ha : ∀ k, k < n → a k < 4) {k j : Nat} (hk : k < n) (hj : j < n) : wJ B ed pf a k j = wJ B ed pf a j k := by
  unfold wJ
  by_cases c : (B k).testBit j = true
  · rw [if_pos c, if_pos (N.2.2.2.2.2 _ _ c)]
    unfold wE
    rw [Y.1 k j hk hj c, Y.2.1 _ _ (ha k hk) (ha j hj)]
  · rw [if_neg c, if_neg (fun z => c (N.2.2.2.2.2 _ _ z))]
theorem lw_sum {n : Nat} {B kn pl O us : Nat → Nat} {near0 : Nat → Int32} (N : NetN n B near0) (P : PlD n B kn pl O us) {wt ed fa pf mn : Nat → Int32} (Y : Sy n B ed pf mn) {a : As} (ha : ∀ k, k < n → a k < 4) : si n (fun s => lw n B O kn wt ed fa pf s a) = SUM n B wt ed fa pf a := by
  obtain ⟨p1, p2, p3, p4, p5⟩ := P
  have w0 : ∀ k, wJ B ed pf a k k = 0 := fun k => by
    unfold wJ
    rw [if_neg (by rw [N.2.2.2.2.1 k]; decide)]
  have eO : ∀ s, s < n → lw n B O kn wt ed fa pf s a = (fun k => wK wt fa k (a k) + si n (fun o => if pl k < pl o then wJ B ed pf a k o else 0)) (kn s) := by
    intro s hs
    show lw n B O kn wt ed fa pf s a = wK wt fa (kn s) (a (kn s)) + si n (fun o => if pl (kn s) < pl o then wJ B ed pf a (kn s) o else 0)
    unfold lw
    congr 1
    refine si_c n fun o ho => ?_
    rw [(p1 s hs).2]
    by_cases c : (B (kn s)).testBit o = true
    · by_cases d : s < pl o
      · rw [if_pos (show tbF (O s) o = true from p4 s o hs c d), if_pos d]
      · rw [if_neg (show ¬tbF (O s) o = true from fun z => d ((p3 s hs).2.2 o z)), if_neg d]
    · have : wJ B ed pf a (kn s) o = 0 := by
        unfold wJ
        rw [if_neg c]
      rw [this]
      split <;> split <;> rfl
  have eP := si_perm p1 p2 (fun k => wK wt fa k (a k) + si n (fun o => if pl k < pl o then wJ B ed pf a k o else 0))
  rw [si_c n eO]
  refine eP.trans ?_
  rw [si_a]
  unfold SUM
  rw [si_a]
  congr 1
  have h1 := dbl (n := n) (w := wJ B ed pf a) (r := pl) (fun k j hk hj => wJ_s N Y ha hk hj) w0 (fun k j hk hj e => by
    have h1 := (p2 k hk).2
    have h2 := (p2 j hj).2
    rw [e] at h1
    exact h1.symm.trans h2)
  have h2 := dbl (n := n) (w := wJ B ed pf a) (r := fun k => n - k) (fun k j hk hj => wJ_s N Y ha hk hj) w0 (fun k j hk hj e => by
    have e : n - k = n - j := e
    omega)
  have e3 : si n (fun k => si n (fun j => if n - k < n - j then wJ B ed pf a k j else 0)) = si n (fun k => si k (wJ B ed pf a k)) := by
    refine si_c n fun k hk => ?_
    refine Eq.trans ?_ (si_cut (f := wJ B ed pf a k) (k := k) n (by omega))
    refine si_c n fun j hj => ?_
    by_cases c : j < k
    · rw [if_pos c, if_pos (by omega)]
    · rw [if_neg c, if_neg (by omega)]
  have h2' : si n (fun k => si n (fun j => if n - k < n - j then wJ B ed pf a k j else 0)) + si n (fun k => si n (fun j => if n - k < n - j then wJ B ed pf a k j else 0)) = si n (fun k => si n (fun j => wJ B ed pf a k j)) := h2
  rw [e3] at h2'
  omega
theorem okL_way {n : Nat} {B kn pl O us : Nat → Nat} {near0 : Nat → Int32} (N : NetN n B near0) (P : PlD n B kn pl O us) {op : Nat → Nat → Bool} {ed pf mn : Nat → Int32} (Y : Sy n B ed pf mn) {a : As} (ha : ∀ k, k < n → a k < 4) : (∀ s, s < n → okL n B O kn op mn s a) ↔ Way n B op (barF mn) a := by
  obtain ⟨p1, p2, p3, p4, p5⟩ := P
  have bs : ∀ k j, k < n → j < n → barF mn (a k) (a j) = barF mn (a j) (a k) := fun k j hk hj => by
    show decide _ = decide _
    rw [Y.2.2 _ _ (ha k hk) (ha j hj)]
  constructor
  · intro h
    refine ⟨fun k hk => ?_, fun k j hk hj hb => ?_⟩
    · have := (h (pl k) (p2 k hk).1).1
      rw [(p2 k hk).2] at this
      exact this
    · have hjn : j < n := by omega
      rcases Nat.lt_trichotomy (pl k) (pl j) with c | c | c
      · have ek := (p2 k hk).2
        have hO := p4 (pl k) j (p2 k hk).1 (by rw [ek]; exact hb) c
        have := (h (pl k) (p2 k hk).1).2 j hjn hO (by rw [ek]; exact hb)
        rw [ek] at this
        exact this
      · exfalso
        have h1 := (p2 k hk).2
        have h2 := (p2 j hjn).2
        rw [c] at h1
        have := h1.symm.trans h2
        omega
      · have ek := (p2 j hjn).2
        have hb' := N.2.2.2.2.2 _ _ hb
        have hO := p4 (pl j) k (p2 j hjn).1 (by rw [ek]; exact hb') c
        have := (h (pl j) (p2 j hjn).1).2 k hk hO (by rw [ek]; exact hb')
        rw [ek] at this
        rw [bs k j hk hjn]
        exact this
  · intro h s hs
    refine ⟨h.1 _ (p1 s hs).1, fun o ho _ hb => ?_⟩
    rcases Nat.lt_trichotomy o (kn s) with c | c | c
    · exact h.2 (kn s) o (p1 s hs).1 c hb
    · subst c
      rw [N.2.2.2.2.1] at hb; cases hb
    · rw [bs _ _ (p1 s hs).1 ho]
      exact h.2 o (kn s) ho c (N.2.2.2.2.2 _ _ hb)
/-- THE CLASS'S TABLES GIVE THE SUM OVER ALL WAYS -/
theorem TP_sum {n : Nat} {B kn pl O us : Nat → Nat} {near0 : Nat → Int32} (N : NetN n B near0) (P : PlD n B kn pl O us) (op : Nat → Nat → Bool) {wt ed fa pf mn : Nat → Int32} (Y : Sy n B ed pf mn) (z : Int) : Pr n (fun j => if n ≤ us j then TP n B O kn us op wt ed fa pf mn z j (fun _ => 0) else va1) = Sm (fun _ => true) n (fun a => vC (Way n B op (barF mn) a) (z * SUM n B wt ed fa pf a)) (fun _ => 0) := by
  have P' := P
  obtain ⟨p1, p2, p3, p4, p5⟩ := P
  have hus : ∀ i, i < n → i < us i := fun i hi => by
    have := N.1
    rcases p5 i hi with h | h
    · omega
    · exact h.2.2.1
  have hE := elim n n (SsP kn) (lcP n B O kn op wt ed fa pf mn z) us (TP n B O kn us op wt ed fa pf mn z) hus (fun i j k hij hj hk ⟨h1, h2⟩ => by
    unfold SsP at h1 h2
    rw [decide_eq_true_eq] at h1 h2
    have e1 := (p1 i (by omega)).2
    have e2 := (p1 j hj).2
    rw [← h1] at e1
    rw [← h2] at e2
    omega) (fun i j hij hj k hk hs b s => by
    unfold SsP at hs
    rw [decide_eq_true_eq] at hs
    refine Dp_u (lcP_dp (p1 j hj).1) ?_ b s
    have n1 : (O j).testBit k = false := bf fun q => by
      have := (p3 j hj).2.2 k q
      rw [hs, (p1 i (by omega)).2] at this
      omega
    show ((O j).testBit k || decide (k = kn j)) = false
    rw [n1, decide_eq_false (fun q => by
      have e1 := (p1 i (by omega)).2
      have e2 := (p1 j hj).2
      rw [← hs] at e1
      rw [← q] at e2
      omega)]
    rfl) (fun j i hji hi hu k hk hs b s => by
    unfold SsP at hs
    rw [decide_eq_true_eq] at hs
    refine Dp_u (TP_dp P' j (by omega)) (bf fun q => ?_) b s
    rcases p5 j (by omega) with ⟨_, e⟩ | ⟨_, _, _, e⟩
    · have q : (O j).testBit k = true := q
      rw [e, Nat.zero_testBit] at q; cases q
    · have := (e k q).1
      rw [hs, (p1 i hi).2] at this
      omega) (fun i _ a => Tt_e i a) (fun _ => 0)
  rw [← hE, Sm_S (T := fun _ => true) n _ _ (fun k hk => by
    show (List.range n).any (fun i => SsP kn i k) = true
    rw [List.any_eq_true]
    exact ⟨pl k, List.mem_range.mpr (p2 k hk).1, decide_eq_true (p2 k hk).2.symm⟩)]
  refine Sm_o n _ fun b hb => ?_
  have ha : ∀ k, k < n → b k < 4 := fun k hk => hb.2 k hk rfl
  unfold lcP
  rw [Pr_C]
  refine vC_c (okL_way N P' Y ha) ?_
  rw [si_m, lw_sum N P' Y ha]
/-- what is open -/
def opF (q : Nat) (w : Nat → Nat) (k s : Nat) : Bool := decide (s < q) && (w k).testBit s
theorem cS_st {P : Nat → Bool} {q : Nat} : ∀ m, q ≤ m → (∀ i, q ≤ i → i < m → ¬P i = true) → cS P m = cS P q ∧ ∀ f, elt P m f = elt P q f := by
  intro m
  induction m with
  | zero => intro h _; rw [show q = 0 by omega]; exact ⟨rfl, fun _ => rfl⟩
  | succ m ih =>
    intro h h1
    by_cases e : q = m + 1
    · rw [e]; exact ⟨rfl, fun _ => rfl⟩
    · obtain ⟨a, b⟩ := ih (by omega) fun i h2 h3 => h1 i h2 (by omega)
      have c := h1 m (by omega) (by omega)
      rw [cS_f c]
      exact ⟨a, fun f => by rw [elt_f c]; exact b f⟩
theorem op_q {q : Nat} (hq : q ≤ 4) (w : Nat → Nat) (k : Nat) : cS (opF q w k) 4 = cS (opF q w k) q ∧ ∀ f, elt (opF q w k) 4 f = elt (opF q w k) q f := cS_st 4 hq fun i h1 _ => by
  unfold opF
  rw [decide_eq_false (by omega), Bool.false_and]; decide
theorem l_li {q k : Nat} (hq : q ≤ 4) (hk : k < 14) {w : Nat → Nat} {op : Nat → Int32} (ho : op k = nI (w k) ∧ w k < 16) (ocn : Nat → Int32) : ∀ f s ost, s ≤ q → q - s < f → (∀ i, i < cS (opF q w k) s → ost (4 * k + i) = nI (elt (opF q w k) s i)) → ∃ ost', L_X7_listOpenStates_4 (nI k) op (nI q) f (nI (cS (opF q w k) s)) (nI s) ost ocn = some (ost', upd ocn k (nI (cS (opF q w k) 4))) ∧ (∀ i, i < cS (opF q w k) 4 → ost' (4 * k + i) = nI (elt (opF q w k) 4 i)) ∧ ∀ i, ¬(4 * k ≤ i ∧ i < 4 * k + 4) → ost' i = ost i := by
  obtain ⟨q1, q2⟩ := op_q hq w k
  intro f
  induction f with
  | zero => intro s ost h1 h2; omega
  | succ f ih =>
    intro s ost hs hf h
    rw [L_X7_listOpenStates_4]
    have hcs := cS_le (opF q w k) s
    rcases Nat.lt_or_ge s q with c | c
    · rw [if_neg (nI_ge c (by omega)), ld_ok _ (in14 hk), cl14 hk, ho.1]
      by_cases d : (w k).testBit s = true
      · have dt : opF q w k s = true := by unfold opF; rw [decide_eq_true c, d]; rfl
        rw [cal_e (hasBit_n (by omega) (by omega)), if_pos d, if_neg n10, nx_s4, sI_ok _ (in56 (by omega)), nI_clamp (by omega), bnd_s, bnd_s, nI_1, nI_1]
        obtain ⟨ost', r1, r2, r3⟩ := ih (s + 1) (upd ost (4 * k + cS (opF q w k) s) (nI s)) (by omega) (by omega) (fun i hi => by
          rw [cS_t dt] at hi
          by_cases e : i = cS (opF q w k) s
          · rw [e, up_e, elt_n dt]
          · rw [up_n (by omega), elt_o (by omega)]; exact h i (by omega))
        rw [cS_t dt] at r1
        refine ⟨ost', r1, r2, fun i hi => ?_⟩
        rw [r3 i hi, up_n (by omega)]
      · have dt : ¬opF q w k s = true := by unfold opF; rw [bf d, Bool.and_false]; decide
        rw [cal_e (hasBit_n (by omega) (by omega)), if_neg d, if_pos rfl, bnd_s, nI_1]
        obtain ⟨ost', r1, r2, r3⟩ := ih (s + 1) ost (by omega) (by omega) (fun i hi => by
          rw [cS_f dt] at hi
          rw [elt_f dt]; exact h i hi)
        rw [cS_f dt] at r1
        exact ⟨ost', r1, r2, r3⟩
    · have es : s = q := by omega
      subst es
      rw [if_pos (nI_le c (by omega)), sI_ok _ (in14 hk), cl14 hk, q1]
      exact ⟨ost, rfl, fun i hi => by rw [q2]; exact h i hi, fun _ _ => rfl⟩
theorem list_n {q k : Nat} (hq : q ≤ 4) (hk : k < 14) {w : Nat → Nat} {op : Nat → Int32} (ho : op k = nI (w k) ∧ w k < 16) (ost ocn : Nat → Int32) : ∃ ost', f_X7_listOpenStates (nI k) op (nI q) ost ocn = some (ost', upd ocn k (nI (cS (opF q w k) 4))) ∧ (∀ i, i < cS (opF q w k) 4 → ost' (4 * k + i) = nI (elt (opF q w k) 4 i)) ∧ ∀ i, ¬(4 * k ≤ i ∧ i < 4 * k + 4) → ost' i = ost i := by
  unfold f_X7_listOpenStates
  rw [bnd_s, bnd_s]
  exact l_li hq hk ho ocn NN 0 ost (Nat.zero_le _) (by show _ < 32768; omega) (fun i hi => absurd hi (Nat.not_lt_zero _))
def OpK (op : Nat → Nat → Bool) (ost ocn : Nat → Int32) (k : Nat) : Prop := ocn k = nI (cS (op k) 4) ∧ ∀ f, f < cS (op k) 4 → ost (4 * k + f) = nI (elt (op k) 4 f)
theorem l_sw2 {n q X : Nat} (hn : n ≤ 14) (hq : q ≤ 4) (hX : X < 16384) {w : Nat → Nat} {op : Nat → Int32} (ho : ∀ k, k < n → op k = nI (w k) ∧ w k < 16) (zs ns : Int32) (wt near0 ed fa pf mn knots oth oc sc us fe fc : Nat → Int32) (sum many ps : Int32) (picks str su co : Nat → Int32) : ∀ f k ost ocn, k ≤ n → n - k < f → (∀ j, j < n → (j < k ∨ X.testBit j = false) → OpK (opF q w) ost ocn j) → ∃ ost' ocn', L_X7_sweepAgain_2 zs op (nI n) wt near0 ed (nI q) fa pf mn ns knots oth oc sc us fe fc f (nI k) sum many (nI X) ps ost ocn picks str su co = L_X7_sweepAgain_49 zs op (nI n) wt near0 ed (nI q) fa pf mn ns knots oth oc sc us fe fc NN 0 0 0 1 (nI X) ps ost' ocn' picks str su co ∧ OpA n (opF q w) ost' ocn' := by
  intro f
  induction f with
  | zero => intro k ost ocn h1 h2; omega
  | succ f ih =>
    intro k ost ocn hk hf h
    rw [L_X7_sweepAgain_2]
    rcases Nat.lt_or_ge k n with c | c
    · rw [if_neg (nI_ge c (by omega))]
      by_cases d : X.testBit k = true
      · obtain ⟨ost', r1, r2, r3⟩ := list_n hq (show k < 14 by omega) (ho k c) ost ocn
        rw [cal_e (hasB1 hX (by omega) d), if_neg n10, cal_e r1, bnd_s, nI_1]
        refine ih (k + 1) _ _ (by omega) (by omega) fun j hj hd => ?_
        by_cases e : j = k
        · subst e
          exact ⟨up_e, r2⟩
        · obtain ⟨a, b⟩ := h j hj (hd.elim (fun z => Or.inl (by omega)) Or.inr)
          have h4 := cS_le (opF q w j) 4
          refine ⟨by show upd ocn k _ j = _; rw [up_n e]; exact a, fun i hi => ?_⟩
          show ost' _ = _
          rw [r3 _ (by omega)]; exact b i hi
      · rw [cal_e (hasB0 hX (by omega) (bf d)), if_pos rfl, bnd_s, nI_1]
        refine ih (k + 1) _ _ (by omega) (by omega) fun j hj hd => h j hj ?_
        rcases hd with z | z
        · by_cases e : j = k
          · subst e; exact Or.inr (bf d)
          · exact Or.inl (by omega)
        · exact Or.inr z
    · rw [if_pos (nI_le c (by omega)), bnd_s, bnd_s, bnd_s, bnd_s]
      exact ⟨ost, ocn, rfl, fun j hj => h j hj (Or.inl (by omega))⟩
/-- a step that is not felt -/
theorem TP_same {n : Nat} {B kn pl O us : Nat → Nat} (P : PlD n B kn pl O us) {op opO : Nat → Nat → Bool} {wt ed fa pf mn : Nat → Int32} {z : Int} {s : Nat} (hs : s < n) (hk : op (kn s) = opO (kn s)) (hj : ∀ j, j < s → us j = s → ∀ a, TP n B O kn us op wt ed fa pf mn z j a = TP n B O kn us opO wt ed fa pf mn z j a) (a : As) : TP n B O kn us op wt ed fa pf mn z s a = TP n B O kn us opO wt ed fa pf mn z s a := by
  have e1 : TP n B O kn us op wt ed fa pf mn z s a = _ := Tt_e s a
  have e2 : TP n B O kn us opO wt ed fa pf mn z s a = _ := Tt_e s a
  rw [e1, e2]
  refine Sm_c (fun b => ?_) _ _
  congr 1
  · unfold lcP okL
    rw [hk]
  · refine Pr_c s fun j hjs => ?_
    by_cases c : us j = s
    · rw [if_pos c, if_pos c]; exact hj j hjs c b
    · rw [if_neg c, if_neg c]
theorem TV_same {n : Nat} {B kn pl O us : Nat → Nat} (P : PlD n B kn pl O us) {op opO : Nat → Nat → Bool} {wt ed fa pf mn : Nat → Int32} {z : Int} {s : Nat} (hs : s < n) (hT : ∀ a, TP n B O kn us op wt ed fa pf mn z s a = TP n B O kn us opO wt ed fa pf mn z s a) (ho : ∀ k, k < n → (O s).testBit k = true → op k = opO k) {str su co : Nat → Int32} (h : TV n B O kn us opO wt ed fa pf mn z s str su co) : TV n B O kn us op wt ed fa pf mn z s str su co := by
  have eoc : ∀ k, k < n → tbF (O s) k = true → ocF op k = ocF opO k := fun k hk hd => by unfold ocF; rw [ho k hk hd]
  refine ⟨fun f hf => ?_, fun p hp => ?_⟩
  · rw [h.1 f hf]
    congr 1
    exact (rx_c _ fun i hi hd => eoc i (by have := (elt_t n f hf).1; omega) hd).symm
  · have := h.2 p fun k hk hd => by rw [← eoc k hk hd]; exact hp k hk hd
    rw [ix_c (oc' := ocF opO) (p' := p) n fun i hi hd => ⟨eoc i hi hd, rfl⟩, hT]
    rw [TP_dp P s hs (asg op p) (asg opO p) fun k hk hd => by unfold asg; rw [ho k hk hd]]
    exact this
theorem l_sw49 {n q X : Nat} {B kn pl O us : Nat → Nat} {near0 : Nat → Int32} (N : NetN n B near0) (P : PlD n B kn pl O us) {knots oth oc sc usr fe fc : Nat → Int32} (A : PlA n kn O us knots oth oc sc usr fe fc) {w : Nat → Nat} {op' ost ocn : Nat → Int32} (H : OpA n (opF q w) ost ocn) {wt ed fa pf mn : Nat → Int32} (L : LwB wt ed fa pf) {zs : Int32} {z : Int} (hz : z.natAbs ≤ 1) (hzs : zs = Int32.ofInt z) (hX : X < 2 ^ n) {opO : Nat → Nat → Bool} (hO : ∀ k, k < n → X.testBit k = false → opF q w k = opO k) : ∀ f s St sum many ps g str su co, s ≤ n → n - s < f → St < 32768 → (∀ j, j < s → TV n B O kn us (opF q w) wt ed fa pf mn z j str su co) → (∀ j, s ≤ j → j < n → (O j ||| 2 ^ kn j) &&& X ≠ 0 ∨ TV n B O kn us opO wt ed fa pf mn z j str su co) → (∀ j, j < s → St.testBit (us j) = true ∨ ∀ a, TP n B O kn us (opF q w) wt ed fa pf mn z j a = TP n B O kn us opO wt ed fa pf mn z j a) → Ce sum many (Pr s (fun j => if n ≤ us j then TP n B O kn us (opF q w) wt ed fa pf mn z j (fun _ => 0) else va1)) → ∃ sum' many' ps' g' str' su' co', L_X7_sweepAgain_49 zs op' (nI n) wt near0 ed (nI q) fa pf mn (nI n) knots oth oc sc usr fe fc f (nI St) (nI s) sum many (nI X) ps ost ocn g str su co = some (sum', many', 0, ps', ost, ocn, g', str', su', co') ∧ Ce sum' many' (Pr n (fun j => if n ≤ us j then TP n B O kn us (opF q w) wt ed fa pf mn z j (fun _ => 0) else va1)) ∧ ∀ j, j < n → TV n B O kn us (opF q w) wt ed fa pf mn z j str' su' co' := by
  have hn := N.1
  have hp := p2n hn
  have hus : ∀ i, i < n → i < us i ∧ us i ≤ 14 := fun i hi => by
    rcases P.2.2.2.2 i hi with h | h
    · omega
    · exact ⟨h.2.2.1, by omega⟩
  intro f
  induction f with
  | zero => intro s St sum many ps g str su co h1 h2; omega
  | succ f ih =>
    intro s St sum many ps g str su co hs hf hSt h1 h2 h3 hC
    rw [L_X7_sweepAgain_49]
    rcases Nat.lt_or_ge s n with c | c
    · obtain ⟨r1, r2, r3, r4, r5⟩ := A.1 s c
      have o1 := P.2.2.1 s c
      have k1 := P.1 s c
      have u1 := hus s c
      -- behind the filling
      have fin : ∀ St' ps' g' str' su' co', St' < 32768 → (∀ j, j < s + 1 → TV n B O kn us (opF q w) wt ed fa pf mn z j str' su' co') → (∀ j, s + 1 ≤ j → j < n → (O j ||| 2 ^ kn j) &&& X ≠ 0 ∨ TV n B O kn us opO wt ed fa pf mn z j str' su' co') → (∀ j, j < s + 1 → St'.testBit (us j) = true ∨ ∀ a, TP n B O kn us (opF q w) wt ed fa pf mn z j a = TP n B O kn us opO wt ed fa pf mn z j a) → ∃ sum' many' ps2 g2 str2 su2 co2, J_X7_sweepAgain_104 zs op' (nI n) wt near0 ed (nI q) fa pf mn (nI n) knots oth oc sc usr fe fc (fun y0 y1 y2 y3 y4 y5 y6 y7 y8 y9 y10 y11 => L_X7_sweepAgain_49 zs op' (nI n) wt near0 ed (nI q) fa pf mn (nI n) knots oth oc sc usr fe fc f y0 y1 y2 y3 y4 y5 y6 y7 y8 y9 y10 y11) (nI St') (nI s) sum many (nI X) ps' ost ocn g' str' su' co' = some (sum', many', 0, ps2, ost, ocn, g2, str2, su2, co2) ∧ Ce sum' many' (Pr n (fun j => if n ≤ us j then TP n B O kn us (opF q w) wt ed fa pf mn z j (fun _ => 0) else va1)) ∧ ∀ j, j < n → TV n B O kn us (opF q w) wt ed fa pf mn z j str2 su2 co2 := by
        intro St' ps' g' str' su' co' hSt' t1 t2 t3
        unfold J_X7_sweepAgain_104
        rw [ld_ok _ (in14 (by omega)), cl14 (by omega), r2]
        have e256 : nI s * (256 : Int32) = nI (256 * s) := by rw [show (256 : Int32) = nI 256 from rfl, nx_mul, Nat.mul_comm]
        by_cases d : O s = 0
        · have c0 : cS (tbF (O s)) n = 0 := by
            rw [d]
            have : ∀ m, cS (tbF 0) m = 0 := by
              intro m
              induction m with
              | zero => rfl
              | succ m ihm => rw [cS_f (show ¬(0 : Nat).testBit m = true by rw [Nat.zero_testBit]; decide)]; exact ihm
            exact this n
          have ue : n ≤ us s := by
            rcases P.2.2.2.2 s c with h | h
            · omega
            · have := h.2.1
              rw [d, Nat.zero_testBit] at this; cases this
          rw [c0, if_pos (by decide), e256, ld_ok _ (in3584 (by omega)), nI_clamp (by omega), bnd_s, ld_ok _ (in3584 (by omega)), nI_clamp (by omega), bnd_s, bnd_s, nI_1]
          refine ih (s + 1) St' _ _ ps' g' str' su' co' (by omega) (by omega) hSt' t1 t2 t3 ?_
          rw [Pr, if_pos ue]
          have := (t1 s (by omega)).2 (fun _ => 0) (fun k hk hd => by rw [d, Nat.zero_testBit] at hd; cases hd)
          rw [ix_0, Nat.add_zero, TP_dp P s c (asg (opF q w) (fun _ => 0)) (fun _ => 0) (fun k hk hd => by
            have hd : (O s).testBit k = true := hd
            rw [d, Nat.zero_testBit] at hd; cases hd)] at this
          exact Ce_mul hC this
        · have ue : us s < n := by
            rcases P.2.2.2.2 s c with h | h
            · exact absurd h.2 d
            · exact h.1
          have c0 : 0 < cS (tbF (O s)) n := by
            obtain ⟨i, hi⟩ := ex_bit d
            have := cS_lt (P := tbF (O s)) hi (tb_n o1.1 hi)
            omega
          rw [if_neg (show ¬nI (cS (tbF (O s)) n) ≤ 0 by
            rw [Int32.le_iff_toInt_le, nI_toInt (by omega)]
            have : (0 : Int32).toInt = 0 := rfl
            omega), bnd_s, nI_1]
          refine ih (s + 1) St' _ _ ps' g' str' su' co' (by omega) (by omega) hSt' t1 t2 t3 ?_
          rw [Pr, if_neg (by omega), vm1]
          exact hC
      have fill : ∃ sum' many' ps2 g2 str2 su2 co2, J_X7_sweepAgain_85 zs op' (nI n) wt near0 ed (nI q) fa pf mn (nI n) knots oth oc sc usr fe fc (fun y0 y1 y2 y3 y4 y5 y6 y7 y8 y9 y10 y11 => J_X7_sweepAgain_104 zs op' (nI n) wt near0 ed (nI q) fa pf mn (nI n) knots oth oc sc usr fe fc (fun y0 y1 y2 y3 y4 y5 y6 y7 y8 y9 y10 y11 => L_X7_sweepAgain_49 zs op' (nI n) wt near0 ed (nI q) fa pf mn (nI n) knots oth oc sc usr fe fc f y0 y1 y2 y3 y4 y5 y6 y7 y8 y9 y10 y11) y0 y1 y2 y3 y4 y5 y6 y7 y8 y9 y10 y11) (nI St) (nI s) sum many (nI X) ps ost ocn g str su co = some (sum', many', 0, ps2, ost, ocn, g2, str2, su2, co2) ∧ Ce sum' many' (Pr n (fun j => if n ≤ us j then TP n B O kn us (opF q w) wt ed fa pf mn z j (fun _ => 0) else va1)) ∧ ∀ j, j < n → TV n B O kn us (opF q w) wt ed fa pf mn z j str2 su2 co2 := by
        obtain ⟨ps', g', str', su', co', q1, q2, q3, q4⟩ := fillTable_n N P A H L hz hzs c ps g str su co (fun j hj hu => h1 j (by have := hus j hj; omega))
        unfold J_X7_sweepAgain_85
        rw [cal_e q1, ld_ok _ (in14 (by omega)), cl14 (by omega), r5, nx_bit1 _ (by omega), nx_or, bnd_s]
        refine fin (St ||| 2 ^ us s) ps' g' str' su' co' (Nat.or_lt_two_pow (n := 15) hSt (Nat.pow_lt_pow_right (by decide) (by omega))) (fun j hj => ?_) (fun j hj1 hj2 => ?_) (fun j hj => ?_)
        · by_cases e : j = s
          · rw [e]; exact q2
          · exact TV_k (P.2.2.1 j (by omega)).2.1 (h1 j (by omega)) (fun i hi => q3 _ (by omega)) (fun i hi => q4 _ (by omega))
        · rcases h2 j (by omega) hj2 with h | h
          · exact Or.inl h
          · exact Or.inr (TV_k (P.2.2.1 j hj2).2.1 h (fun i hi => q3 _ (by omega)) (fun i hi => q4 _ (by omega)))
        · by_cases e : j = s
          · rw [e]; exact Or.inl (or2_t.mpr (Or.inr rfl))
          · rcases h3 j (by omega) with h | h
            · exact Or.inl (or2_t.mpr (Or.inl h))
            · exact Or.inr h
      rw [if_neg (nI_ge c (by omega)), ld_ok _ (in14 (by omega)), cl14 (by omega), r4, nx_and]
      have hl : (O s ||| 2 ^ kn s) &&& X < 16384 := Nat.lt_of_le_of_lt Nat.and_le_right (by omega)
      by_cases d : (O s ||| 2 ^ kn s) &&& X = 0
      · rw [d, if_pos (show nI 0 = 0 from rfl), cal_e (hasBit_n (by omega) (by omega))]
        by_cases e : St.testBit s = true
        · rw [if_pos e, if_neg n10]
          exact fill
        · rw [if_neg e, if_pos rfl]
          have nX : ∀ k, (O s ||| 2 ^ kn s).testBit k = true → X.testBit k = false := fun k hk => bf fun z => by
            have : ((O s ||| 2 ^ kn s) &&& X).testBit k = true := by rw [Nat.testBit_and, hk, z]; rfl
            rw [d, Nat.zero_testBit] at this; cases this
          have hT := TP_same (wt := wt) (ed := ed) (fa := fa) (pf := pf) (mn := mn) (z := z) P c (hO _ k1.1 (nX _ (or2_t.mpr (Or.inr rfl)))) (fun j hj hu => by
            rcases h3 j hj with h | h
            · rw [hu] at h; exact absurd h e
            · exact h)
          refine fin St ps g str su co hSt (fun j hj => ?_) (fun j hj1 hj2 => h2 j (by omega) hj2) (fun j hj => ?_)
          · by_cases ej : j = s
            · rw [ej]
              rcases h2 s (Nat.le_refl _) c with h | h
              · exact absurd d h
              · exact TV_same P c hT (fun k hk hd => hO k hk (nX k (or2_t.mpr (Or.inl hd)))) h
            · exact h1 j (by omega)
          · by_cases ej : j = s
            · rw [ej]; exact Or.inr hT
            · exact h3 j (by omega)
      · rw [if_neg (nI_nz (by omega) (by omega))]
        exact fill
    · have es : s = n := by omega
      subst es
      rw [if_pos (nI_le c (by omega)), bnd_s]
      exact ⟨_, _, _, _, _, _, _, rfl, hC, h1⟩
theorem loose_0 {n b : Nat} {B : Nat → Nat} {near0 : Nat → Int32} (N : NetN n B near0) (hb : b ≤ 14) {masks : Nat → Int32} (hm : ∀ i, i < b → ∃ m, masks i = nI m ∧ m < 2 ^ n) {a : Nat} (ha : a < n) (kx : Int32 → Option Int32) : ∀ (f j : Nat), j ≤ n → n - j < f → L_X0_looseEdge_14 (nI b) masks (nI n) near0 kx f (nI a) (nI j) = some 0 → kx (nI (a + 1)) = some 0 ∧ ∀ c, j ≤ c → c < n → (B a).testBit c = true → ∃ i, i < b ∧ (masks i).toNatClampNeg.testBit a = true ∧ (masks i).toNatClampNeg.testBit c = true := by
  have hn := N.1
  intro f
  induction f with
  | zero => intro j h1 h2; omega
  | succ f ih =>
    intro j hj hf h0
    rw [L_X0_looseEdge_14] at h0
    rcases Nat.lt_or_ge j n with h | h
    · have ej := (edge9_eq (nI a) (nI j) (nI n) near0).symm.trans (edge_n N ha h)
      rw [if_neg (nI_ge h (by omega)), cal_e ej] at h0
      by_cases z : (B a).testBit j = true
      · obtain ⟨r, r1, r2, r3⟩ := hold_n hn hb hm (s := 2 ^ a ||| 2 ^ j) (or_lt (pow_lt14 (by omega)) (pow_lt14 (by omega)))
        rw [if_pos z, if_neg n10, nx_bit1 a (by omega), nx_bit1 j (by omega), nx_or, cal_e r1] at h0
        rcases r3 with ⟨rfl, i, i1, i2⟩ | ⟨rfl, _⟩
        · rw [if_neg n10, bnd_s, nI_1] at h0
          obtain ⟨q1, q2⟩ := ih (j + 1) (by omega) (by omega) h0
          refine ⟨q1, fun c h1 h2 h3 => ?_⟩
          by_cases e : c = j
          · subst e
            exact ⟨i, i1, i2 a (by rw [Nat.testBit_or, Nat.testBit_two_pow_self]; rfl), i2 c (by rw [Nat.testBit_or, Nat.testBit_two_pow_self, Bool.or_true])⟩
          · exact q2 c (by omega) h2 h3
        · rw [if_pos rfl] at h0
          exfalso
          have e1 : (nI j).toInt = (j : Int) := nI_toInt (by omega)
          have e2 : (nI a).toInt = (a : Int) := nI_toInt (by omega)
          have l1 : (1 : Int32).toInt = 1 := rfl
          have k1 : ((16 : Int32) * nI a).toInt = 16 * (nI a).toInt := ti_cmul rfl (by omega)
          have k2 : ((1 : Int32) + ((16 : Int32) * nI a)).toInt = (1 : Int32).toInt + ((16 : Int32) * nI a).toInt := ti_add (by omega) (by omega)
          exact nz1 (by rw [ti_add (by omega) (by omega)]; omega) (Option.some.inj h0)
      · rw [if_neg z, if_pos rfl, bnd_s, nI_1] at h0
        obtain ⟨q1, q2⟩ := ih (j + 1) (by omega) (by omega) h0
        refine ⟨q1, fun c h1 h2 h3 => ?_⟩
        by_cases e : c = j
        · subst e; exact absurd h3 z
        · exact q2 c (by omega) h2 h3
    · rw [if_pos (nI_le h (by omega)), bnd_s, nI_1] at h0
      exact ⟨h0, fun c h1 h2 => by omega⟩
theorem loose_00 {n b : Nat} {B : Nat → Nat} {near0 : Nat → Int32} (N : NetN n B near0) (hb : b ≤ 14) {masks : Nat → Int32} (hm : ∀ i, i < b → ∃ m, masks i = nI m ∧ m < 2 ^ n) : ∀ (f j : Nat), j ≤ n → n - j < f → L_X0_looseEdge_2 (nI b) masks (nI n) near0 f (nI j) = some 0 → ∀ a c, j ≤ a → a < c → c < n → (B a).testBit c = true → ∃ i, i < b ∧ (masks i).toNatClampNeg.testBit a = true ∧ (masks i).toNatClampNeg.testBit c = true := by
  have hn := N.1
  intro f
  induction f with
  | zero => intro j h1 h2; omega
  | succ f ih =>
    intro j hj hf h0
    rw [L_X0_looseEdge_2] at h0
    rcases Nat.lt_or_ge j n with h | h
    · rw [if_neg (nI_ge h (by omega)), bnd_s, nI_1] at h0
      obtain ⟨q1, q2⟩ := loose_0 N hb hm h (fun y0 => L_X0_looseEdge_2 (nI b) masks (nI n) near0 f y0) NN (j + 1) (by omega) (by show _ < 32768; omega) h0
      intro a c h1 h2 h3 h4
      by_cases e : a = j
      · subst e; exact q2 c h2 h3 h4
      · exact ih (j + 1) (by omega) (by omega) q1 a c (by omega) h2 h3 h4
    · intro a c h1 h2 h3; omega
theorem scat_0 {n b : Nat} (hn : n ≤ 14) (masks ups : Nat → Int32) {ag : Nat} (ha : ag < 16384) : ∀ (f j : Nat), j ≤ n → n - j < f → L_X0_scatteredKnot_45 (nI b) masks ups (nI n) f (nI ag) (nI j) = some 0 → ∀ k, j ≤ k → k < n → ag.testBit k = false := by
  intro f
  induction f with
  | zero => intro j h1 h2; omega
  | succ f ih =>
    intro j hj hf h0
    rw [L_X0_scatteredKnot_45] at h0
    rcases Nat.lt_or_ge j n with h | h
    · rw [if_neg (nI_ge h (by omega))] at h0
      by_cases z : ag.testBit j = true
      · rw [cal_e (hasB1 ha (by omega) z), if_neg n10] at h0
        exfalso
        have e1 : (nI j).toInt = (j : Int) := nI_toInt (by omega)
        have l1 : (2001 : Int32).toInt = 2001 := rfl
        exact nz1 (by rw [ti_add (by omega) (by omega)]; omega) (Option.some.inj h0)
      · rw [cal_e (hasB0 ha (by omega) (bf z)), if_pos rfl, bnd_s, nI_1] at h0
        intro k h1 h2
        by_cases e : k = j
        · subst e; exact bf z
        · exact ih (j + 1) (by omega) (by omega) h0 k (by omega) h2
    · intro k h1 h2; omega
theorem fault_0 {n b : Nat} {B : Nat → Nat} {near0 : Nat → Int32} (N : NetN n B near0) (hb : b ≤ 14) {masks ups : Nat → Int32} (hm : ∀ i, i < b → ∃ m, masks i = nI m ∧ m < 2 ^ n) (hu : ∀ i, i < b → ups i = -1 ∨ ∃ u, ups i = nI u ∧ i < u ∧ u < b) (h : f_X0_fault (nI b) masks ups (nI n) near0 = some 0) : (∀ a c, a < c → c < n → (B a).testBit c = true → ∃ i, i < b ∧ (masks i).toNatClampNeg.testBit a = true ∧ (masks i).toNatClampNeg.testBit c = true) ∧ (∀ k, k < n → ∃ i, i < b ∧ (masks i).toNatClampNeg.testBit k = true) ∧ ∀ k, k < n → ¬Tw ups masks b k := by
  have hn := N.1
  have nn : n - 0 < NN := by show n - 0 < 32768; omega
  have e0 : f_X0_looseEdge (nI b) masks (nI n) near0 = L_X0_looseEdge_2 (nI b) masks (nI n) near0 NN (nI 0) := by
    unfold f_X0_looseEdge; rw [bnd_s]; rfl
  have e1 : f_X0_missingKnot (nI b) masks (nI n) = L_X0_missingKnot_2 (nI b) masks (nI n) NN (nI 0) := by
    unfold f_X0_missingKnot; rw [bnd_s]; rfl
  unfold f_X0_fault at h
  rcases loose_both hn hb (ups := ups) (near0 := near0) hm NN 0 (by omega) nn with ⟨r, r1, r2, r3⟩ | ⟨r1, r2⟩
  · rw [cal_e (e0.trans r2), bnd_s, if_neg r1] at h
    unfold J_X0_fault_16 at h
    rw [if_neg r1] at h
    exact absurd (Option.some.inj h) r1
  · rw [cal_e (e0.trans r1), bnd_s, if_pos rfl] at h
    have hl := loose_00 N hb hm NN 0 (Nat.zero_le _) nn r1
    rcases miss_both hn hb (ups := ups) (near0 := near0) hm NN 0 (by omega) nn (fun k hk => by omega) with ⟨r, q1, q2, q3⟩ | ⟨q1, q2, q3⟩
    · rw [cal_e (e1.trans q2), bnd_s] at h
      unfold J_X0_fault_16 at h
      rw [if_neg q1] at h
      exact absurd (Option.some.inj h) q1
    · obtain ⟨ag, a1, a2, a3⟩ := scat_n hn hb hm hu
      rw [cal_e (e1.trans q1), bnd_s] at h
      unfold J_X0_fault_16 at h
      obtain ⟨r, s1, s2⟩ := scat_both hn hb (near0 := near0) hm hu a1 a3 q3 NN 0 (by omega) nn
      rw [if_pos rfl, cal_e (a2.trans s1), bnd_s] at h
      rw [Option.some.inj h] at s1
      have hs := scat_0 (b := b) hn masks ups a1 NN 0 (Nat.zero_le _) nn s1
      refine ⟨fun a c => hl a c (Nat.zero_le _), q3, fun k hk z => ?_⟩
      have := hs k (Nat.zero_le _) hk
      rw [(a3 k).mpr z] at this; cases this
/-- where a bag hangs -/
def parF (b : Nat) (ups : Nat → Int32) (i : Nat) : Nat := if ups i = -1 then b else (ups i).toNatClampNeg
def MsF (masks : Nat → Int32) (i : Nat) : Nat := (masks i).toNatClampNeg
theorem m1_n {u : Nat} (h : u < 100) : ¬nI u = -1 := fun z => by
  have := congrArg Int32.toInt z
  rw [nI_toInt (by omega)] at this
  have l0 : (-1 : Int32).toInt = -1 := rfl
  omega
theorem Ss_top {b : Nat} (hb : b ≤ 14) {masks ups : Nat → Int32} (hu : ∀ i, i < b → ups i = -1 ∨ ∃ u, ups i = nI u ∧ i < u ∧ u < b) {i k : Nat} (hi : i < b) : Ss b (MsF masks) (parF b ups) i k = true ↔ Top ups masks k i := by
  unfold Ss Dm Top
  rw [Bool.and_eq_true, Bool.not_eq_true']
  constructor
  · rintro ⟨h1, h2⟩
    refine ⟨h1, ?_⟩
    rcases hu i hi with z | ⟨u, u1, u2, u3⟩
    · exact Or.inl z
    · right
      have ep : parF b ups i = u := by
        unfold parF
        rw [u1, if_neg (m1_n (by omega)), nI_clamp (by omega)]
      rw [ep, if_pos u3, Nat.testBit_and, h1, Bool.true_and] at h2
      rw [u1, nI_clamp (by omega)]
      exact h2
  · rintro ⟨h1, h2⟩
    refine ⟨h1, ?_⟩
    rcases hu i hi with z | ⟨u, u1, u2, u3⟩
    · have ep : parF b ups i = b := by
        unfold parF
        rw [if_pos z]
      rw [ep, if_neg (by omega), Nat.zero_testBit]
    · have ep : parF b ups i = u := by
        unfold parF
        rw [u1, if_neg (m1_n (by omega)), nI_clamp (by omega)]
      rw [ep, if_pos u3, Nat.testBit_and]
      rcases h2 with h2 | h2
      · rw [u1] at h2; exact absurd h2 (m1_n (by omega))
      · rw [u1, nI_clamp (by omega)] at h2
        have h2 : (MsF masks u).testBit k = false := h2
        rw [h2, Bool.and_false]
theorem parF_u {b : Nat} (hb : b ≤ 14) {ups : Nat → Int32} (hu : ∀ i, i < b → ups i = -1 ∨ ∃ u, ups i = nI u ∧ i < u ∧ u < b) : ∀ i, i < b → (ups i = nI (parF b ups i) ∧ i < parF b ups i ∧ parF b ups i < b) ∨ (ups i = -1 ∧ parF b ups i = b) := by
  intro i hi
  rcases hu i hi with z | ⟨u, u1, u2, u3⟩
  · right
    refine ⟨z, ?_⟩
    unfold parF
    rw [if_pos z]
  · left
    have ep : parF b ups i = u := by
      unfold parF
      rw [u1, if_neg (m1_n (by omega)), nI_clamp (by omega)]
    rw [ep]; exact ⟨u1, u2, u3⟩
theorem climb_S {b : Nat} (hb : b ≤ 14) {masks ups : Nat → Int32} (hu : ∀ i, i < b → ups i = -1 ∨ ∃ u, ups i = nI u ∧ i < u ∧ u < b) {k : Nat} : ∀ (d i : Nat), b - i ≤ d → i < b → (MsF masks i).testBit k = true → ∃ t, i ≤ t ∧ t < b ∧ Top ups masks k t := by
  intro d
  induction d with
  | zero => intro i h1 h2; omega
  | succ d ih =>
    intro i h1 h2 h3
    rcases hu i h2 with z | ⟨u, u1, u2, u3⟩
    · exact ⟨i, Nat.le_refl _, h2, h3, Or.inl z⟩
    · by_cases c : (MsF masks u).testBit k = true
      · obtain ⟨t, t1, t2⟩ := ih u (by omega) u3 c
        exact ⟨t, by omega, t2⟩
      · refine ⟨i, Nat.le_refl _, h2, h3, Or.inr ?_⟩
        rw [u1, nI_clamp (by omega)]; exact bf c
theorem Snd_n {n b : Nat} {B : Nat → Nat} {near0 : Nat → Int32} (N : NetN n B near0) (hb : b ≤ 14) {masks ups : Nat → Int32} (hm : ∀ i, i < b → ∃ m, masks i = nI m ∧ m < 2 ^ n) (hu : ∀ i, i < b → ups i = -1 ∨ ∃ u, ups i = nI u ∧ i < u ∧ u < b) (h : f_X0_fault (nI b) masks ups (nI n) near0 = some 0) : Snd n b B (MsF masks) (parF b ups) := by
  obtain ⟨f1, f2, f3⟩ := fault_0 N hb hm hu h
  have hk : ∀ {i k}, i < b → (MsF masks i).testBit k = true → k < n := by
    intro i k hi hk
    obtain ⟨m, m1, m2⟩ := hm i hi
    have e : MsF masks i = m := by
      unfold MsF
      rw [m1, nI_clamp (by have := p2n N.1; omega)]
    rw [e] at hk
    exact tb_n m2 hk
  refine ⟨fun i j k hij hj hs => bf fun z => ?_, fun k hk => ?_, fun k j hkn hj hb' => ?_⟩
  · have t1 := (Ss_top hb hu (by omega)).mp hs
    obtain ⟨t, q1, q2, q3⟩ := climb_S hb hu (b - j) j (Nat.le_refl _) hj z
    exact f3 k (hk hj z) ⟨i, t, by omega, q2, t1, q3⟩
  · obtain ⟨i, i1, i2⟩ := f2 k hk
    obtain ⟨t, q1, q2, q3⟩ := climb_S hb hu (b - i) i (Nat.le_refl _) i1 i2
    exact ⟨t, q2, (Ss_top hb hu q2).mpr q3⟩
  · rcases Nat.lt_trichotomy k j with c | c | c
    · exact f1 k j c hj hb'
    · subst c
      rw [N.2.2.2.2.1] at hb'; cases hb'
    · obtain ⟨i, i1, i2, i3⟩ := f1 j k c hkn (N.2.2.2.2.2 _ _ hb')
      exact ⟨i, i1, i3, i2⟩
theorem mkM_ge (m : Nat → Int32) : ∀ b i, i < b → pcN (MsF m i) ≤ mkM m b := by
  intro b
  induction b with
  | zero => intro i h; omega
  | succ b ih =>
    intro i h
    rw [mkM]
    have e : ∀ i, (m i).toNatClampNeg = MsF m i := fun _ => rfl
    rw [e]
    by_cases c : i = b
    · subst c
      split <;> omega
    · have := ih i (by omega)
      split <;> omega
/-- whether one may ask, on both sides; and what it says -/
theorem can_rel {n : Nat} {B : Nat → Nat} {near0 : Nat → Int32} (N : NetN n B near0) {bs tb : Int32} {masks ups bag up : Nat → Int32} (T : BagT n bs tb masks ups bag up) : (f_X8_canAsk (nI n) near0 bs masks ups = some 0 ∧ f_X9_isAsked (nI n) tb near0 bag up = some 0) ∨ (f_X8_canAsk (nI n) near0 bs masks ups = some 1 ∧ f_X9_isAsked (nI n) tb near0 bag up = some 1 ∧ ∃ b, bs = nI b ∧ tb = nI b ∧ masks = bag ∧ ups = up ∧ 0 < b ∧ b ≤ 14 ∧ (∀ i, i < b → masks i = nI (MsF masks i) ∧ MsF masks i < 2 ^ n ∧ pcN (MsF masks i) ≤ 5) ∧ (∀ i, i < b → (ups i = nI (parF b ups i) ∧ i < parF b ups i ∧ parF b ups i < b) ∨ (ups i = -1 ∧ parF b ups i = b)) ∧ Snd n b B (MsF masks) (parF b ups)) := by
  have hn := N.1
  have hS := isSound_n hn near0 T
  obtain ⟨rfl, rfl, rfl, b, hb, rfl, hm, hu⟩ := T
  unfold f_X8_canAsk f_X9_isAsked
  rcases hS with ⟨h1, h2⟩ | ⟨h1, h2, h3, h4⟩
  · left
    rw [cal_e h1, if_pos rfl]
    refine ⟨rfl, ?_⟩
    rcases h2 with h2 | ⟨h2, h3, r, r1, r2⟩
    · rw [if_pos h2]
    · rw [if_neg h2, cal_e r2, if_neg r1]
  · have hm' := Bag_m hn hm
    have hle := mkM_le masks b
    rw [cal_e h1, if_neg n10, cal_e (mostKnots_n hb hm'), if_neg h2, cal_e h4, if_pos rfl, cal_e (width_n hb hm')]
    by_cases c : (4 : Int32) < nI (mkM masks b) - 1
    · rw [if_pos c]; exact Or.inl ⟨rfl, rfl⟩
    · rw [if_neg c]
      right
      have c5 : mkM masks b ≤ 5 := by
        rw [Int32.lt_iff_toInt_lt, sub1_ti hle] at c
        have : (4 : Int32).toInt = 4 := rfl
        omega
      have hb0 : 0 < b := by
        rcases Nat.eq_zero_or_pos b with z | z
        · subst z; exact absurd (by decide) h2
        · exact z
      refine ⟨rfl, rfl, b, rfl, rfl, rfl, rfl, hb0, hb, fun i hi => ?_, parF_u hb hu, ?_⟩
      · obtain ⟨m, m1, m2⟩ := hm i hi
        have e : MsF masks i = m := by
          unfold MsF
          rw [m1, nI_clamp (by have := p2n hn; omega)]
        have := mkM_ge masks b i hi
        exact ⟨by rw [e]; exact m1, by rw [e]; exact m2, by omega⟩
      · refine Snd_n N hb hm hu ?_
        obtain ⟨r, r1, r2⟩ := fault_both hn hb near0 hm hu
        have es : f_X9_sound (nI n) (nI b) near0 masks ups = some r := by
          unfold f_X9_sound
          rw [if_neg h3, bnd_s]; exact r2
        rw [es] at h4
        rw [r1]; exact h4
/-- all ways, told together -/
noncomputable def ALL (n : Nat) (B : Nat → Nat) (op : Nat → Nat → Bool) (wt ed fa pf mn : Nat → Int32) (z : Int) : Va := Sm (fun _ => true) n (fun a => vC (Way n B op (barF mn) a) (z * SUM n B wt ed fa pf a)) (fun _ => 0)
theorem sweepAgain_n {n q X : Nat} {B kn pl O us : Nat → Nat} {near0 : Nat → Int32} (N : NetN n B near0) (hq : q ≤ 4) (P : PlD n B kn pl O us) {knots oth oc sc usr fe fc : Nat → Int32} (A : PlA n kn O us knots oth oc sc usr fe fc) {w : Nat → Nat} {op : Nat → Int32} (ho : ∀ k, k < n → op k = nI (w k) ∧ w k < 16) {wt ed fa pf mn : Nat → Int32} (L : LwB wt ed fa pf) (Y : Sy n B ed pf mn) {zs : Int32} {z : Int} (hz : z.natAbs ≤ 1) (hzs : zs = Int32.ofInt z) (hX : X < 2 ^ n) {opO : Nat → Nat → Bool} (hO : ∀ k, k < n → X.testBit k = false → opF q w k = opO k) (sum many ps : Int32) (ost ocn picks str su co : Nat → Int32) (h1 : ∀ j, j < n → X.testBit j = false → OpK (opF q w) ost ocn j) (h2 : ∀ j, j < n → (O j ||| 2 ^ kn j) &&& X ≠ 0 ∨ TV n B O kn us opO wt ed fa pf mn z j str su co) : ∃ sum' many' ps' ost' ocn' g' str' su' co', f_X7_sweepAgain sum many zs (nI X) ps op (nI n) wt near0 ed (nI q) fa pf mn (nI n) knots oth oc sc usr fe fc ost ocn picks str su co = some (sum', many', 0, ps', ost', ocn', g', str', su', co') ∧ Ce sum' many' (ALL n B (opF q w) wt ed fa pf mn z) ∧ OpA n (opF q w) ost' ocn' ∧ ∀ j, j < n → TV n B O kn us (opF q w) wt ed fa pf mn z j str' su' co' := by
  have hn := N.1
  have hp := p2n hn
  unfold f_X7_sweepAgain
  rw [bnd_s]
  obtain ⟨ost', ocn', r1, r2⟩ := l_sw2 hn hq (show X < 16384 by omega) ho zs (nI n) wt near0 ed fa pf mn knots oth oc sc usr fe fc sum many ps picks str su co NN 0 ost ocn (Nat.zero_le _) (by show n - 0 < 32768; omega) (fun j hj hd => hd.elim (fun z => by omega) (h1 j hj))
  obtain ⟨sum', many', ps', g', str', su', co', s1, s2, s3⟩ := l_sw49 (op' := op) N P A r2 L hz hzs hX hO NN 0 0 0 1 ps picks str su co (Nat.zero_le _) (by show n - 0 < 32768; omega) (by decide) (fun j hj => by omega) (fun j _ hj => h2 j hj) (fun j hj => by omega) ⟨(fun e => nomatch e), (fun C X M e => by cases e; exact ⟨rfl, rfl⟩)⟩
  rw [TP_sum N P (opF q w) Y z] at s2
  exact ⟨sum', many', ps', ost', ocn', g', str', su', co', r1.trans s1, s2, r2, s3⟩
theorem all_n2 {n : Nat} (hn : n ≤ 14) : f_X4_everyKnot (nI n) = some (nI (2 ^ n - 1)) := by
  unfold f_X4_everyKnot
  rw [all_v hn]
theorem sweep_n {n q : Nat} {B kn pl O us : Nat → Nat} {near0 : Nat → Int32} (N : NetN n B near0) (hq : q ≤ 4) (P : PlD n B kn pl O us) {knots oth oc sc usr fe fc : Nat → Int32} (A : PlA n kn O us knots oth oc sc usr fe fc) {w : Nat → Nat} {op : Nat → Int32} (ho : ∀ k, k < n → op k = nI (w k) ∧ w k < 16) {wt ed fa pf mn : Nat → Int32} (L : LwB wt ed fa pf) (Y : Sy n B ed pf mn) {zs : Int32} {z : Int} (hz : z.natAbs ≤ 1) (hzs : zs = Int32.ofInt z) (sum many sg ch ps : Int32) (ost ocn picks str su co : Nat → Int32) : ∃ sum' many' ps' ost' ocn' g' str' su' co', f_X7_sweep zs sum many sg ch ps op (nI n) wt near0 ed (nI q) fa pf mn (nI n) knots oth oc sc usr fe fc ost ocn picks str su co = some (sum', many', zs, 0, ps', ost', ocn', g', str', su', co') ∧ Ce sum' many' (ALL n B (opF q w) wt ed fa pf mn z) ∧ OpA n (opF q w) ost' ocn' ∧ ∀ j, j < n → TV n B O kn us (opF q w) wt ed fa pf mn z j str' su' co' := by
  have hn := N.1
  have h2 := Nat.two_pow_pos n
  unfold f_X7_sweep
  rw [bnd_s, cal_e (all_n2 hn), bnd_s]
  obtain ⟨sum', many', ps', ost', ocn', g', str', su', co', r1, r2⟩ := sweepAgain_n N hq P A ho L Y hz hzs (X := 2 ^ n - 1) (by omega) (opO := opF q w) (fun _ _ _ => rfl) sum many ps ost ocn picks str su co (fun j hj h => by rw [tb_all, decide_eq_true hj] at h; cases h) (fun j hj => Or.inl fun e => by
    have : ((O j ||| 2 ^ kn j) &&& (2 ^ n - 1)).testBit (kn j) = true := by
      rw [Nat.testBit_and, or2_t.mpr (Or.inr rfl), tb_all, decide_eq_true (P.1 j hj).1, Bool.true_and]
    rw [e, Nat.zero_testBit] at this; cases this)
  rw [cal_e r1]
  exact ⟨sum', many', ps', ost', ocn', g', str', su', co', rfl, r2⟩
/-- the law's rows -/
def FoA (q : Nat) (tq : Int32) (fo : Nat → Int32) : Prop := tq = nI q ∧ 1 ≤ q ∧ q ≤ 4 ∧ ∀ i, i < 14 → fo i = nI (MsF fo i) ∧ MsF fo i < 16
def wF (q : Nat) (fo : Nat → Int32) (k : Nat) : Nat := nd (2 ^ q - 1) (MsF fo k)
theorem p2q {q : Nat} (hq : q ≤ 4) : 2 ^ q ≤ 16 := Nat.pow_le_pow_right (n := 2) (j := 4) (by decide) hq
theorem wF_lt {q : Nat} (hq : q ≤ 4) (fo : Nat → Int32) (k : Nat) : wF q fo k < 16 := by
  have h1 := nd_le (2 ^ q - 1) (MsF fo k)
  have h2 := p2q hq
  have h3 := Nat.two_pow_pos q
  unfold wF
  omega
theorem wF_t {q : Nat} (hq : q ≤ 4) (fo : Nat → Int32) (k s : Nat) : (wF q fo k).testBit s = true ↔ (s < q ∧ (MsF fo k).testBit s = false) := by
  have h2 := p2q hq
  unfold wF
  rw [nd_t (by omega), tb_all, decide_eq_true_eq]
theorem l_oa {n q : Nat} {tq : Int32} {fo : Nat → Int32} (hn : n ≤ 14) (F : FoA q tq fo) : ∀ f k op, k ≤ n → n - k < f → (∀ i, i < k → op i = nI (wF q fo i)) → ∃ op', L_X7_openAll_2 (nI n) tq fo f (nI k) op = some op' ∧ ∀ i, i < n → op' i = nI (wF q fo i) := by
  obtain ⟨rfl, q1, q4, hF⟩ := F
  intro f
  induction f with
  | zero => intro k op h1 h2; omega
  | succ f ih =>
    intro k op hk hf h
    rw [L_X7_openAll_2]
    rcases Nat.lt_or_ge k n with c | c
    · have e : f_X3_openFor (nI k) (nI q) fo = some (nI (wF q fo k)) := by
        unfold f_X3_openFor
        rw [ld_ok _ (in14 (by omega)), cl14 (by omega), (hF k (by omega)).1, all_v (by omega), nx_nd]
        rfl
      rw [if_neg (nI_ge c (by omega)), cal_e e, sI_ok _ (in14 (by omega)), cl14 (by omega), bnd_s, nI_1]
      refine ih (k + 1) _ (by omega) (by omega) fun i hi => ?_
      by_cases z : i = k
      · rw [z, up_e]
      · rw [up_n z]; exact h i (by omega)
    · rw [if_pos (nI_le c (by omega))]
      exact ⟨op, rfl, fun i hi => h i (by omega)⟩
theorem openAll_n {n q : Nat} {tq : Int32} {fo : Nat → Int32} (hn : n ≤ 14) (F : FoA q tq fo) (op : Nat → Int32) : ∃ op', f_X7_openAll op (nI n) tq fo = some op' ∧ ∀ i, i < n → op' i = nI (wF q fo i) := by
  unfold f_X7_openAll
  rw [bnd_s]
  exact l_oa hn F NN 0 op (Nat.zero_le _) (by show n - 0 < 32768; omega) (fun i hi => by omega)
/-- the reference: free, and what may be -/
theorem free_n (fx : Nat → Int32) : ∃ fx', f_X9_free fx = some fx' ∧ ∀ i, i < 14 → fx' i = -1 := by
  have hl : ∀ f k fx, k ≤ 14 → 14 - k < f → (∀ i, i < k → fx i = -1) → ∃ fx', L_X9_free_2 f (nI k) fx = some fx' ∧ ∀ i, i < 14 → fx' i = -1 := by
    intro f
    induction f with
    | zero => intro k fx h1 h2; omega
    | succ f ih =>
      intro k fx hk hf h
      rw [L_X9_free_2]
      rcases Nat.lt_or_ge k 14 with c | c
      · rw [if_neg (show ¬(14 : Int32) ≤ nI k from nI_ge (b := 14) c (by decide)), sI_ok _ (in14 c), cl14 c, bnd_s, nI_1]
        refine ih (k + 1) _ (by omega) (by omega) fun i hi => ?_
        by_cases z : i = k
        · rw [z, up_e]
        · rw [up_n z]; exact h i (by omega)
      · rw [if_pos (show (14 : Int32) ≤ nI k from nI_le (a := 14) c (by omega))]
        exact ⟨fx, rfl, fun i hi => h i (by omega)⟩
  unfold f_X9_free
  rw [bnd_s]
  exact hl NN 0 fx (Nat.zero_le _) (by decide) (fun i hi => by omega)
theorem may_n {q : Nat} {tq : Int32} {fo : Nat → Int32} (F : FoA q tq fo) {k s : Nat} (hk : k < 14) (hs : s < 4) {fx : Nat → Int32} : (fx k = -1 → f_X9_mayBe (nI k) (nI s) tq fo fx = some (if opF q (wF q fo) k s = true then 1 else 0)) ∧ ∀ t, t < 4 → fx k = nI t → f_X9_mayBe (nI k) (nI s) tq fo fx = some (if (opF q (wF q fo) k s && decide (s = t)) = true then 1 else 0) := by
  obtain ⟨rfl, q1, q4, hF⟩ := F
  have wt := wF_t q4 fo k s
  have ho : opF q (wF q fo) k s = decide (s < q ∧ (MsF fo k).testBit s = false) := by
    unfold opF
    rw [Bool.eq_iff_iff, Bool.and_eq_true, wt, decide_eq_true_eq, decide_eq_true_eq]
    exact ⟨fun h => h.2, fun h => ⟨h.1, h⟩⟩
  obtain ⟨f1, f2⟩ := hF k hk
  have e0 := nx_has0 (a := MsF fo k) (k := s) (by omega) (by omega)
  unfold f_X9_mayBe
  rcases Nat.lt_or_ge s q with c | c
  · rw [if_neg (nI_ge c (by omega)), ld_ok _ (in14 hk), cl14 hk, f1]
    by_cases d : (MsF fo k).testBit s = false
    · have hop : opF q (wF q fo) k s = true := by rw [ho, decide_eq_true ⟨c, d⟩]
      rw [if_pos (e0.mpr d), ld_ok _ (in14 hk), cl14 hk, hop]
      refine ⟨fun h => ?_, fun t ht h => ?_⟩
      · rw [h, if_pos (by decide), if_pos rfl]
      · rw [h, if_neg (by
          rw [Int32.lt_iff_toInt_lt, nI_toInt (by omega)]
          have : (0 : Int32).toInt = 0 := rfl
          omega), ld_ok _ (in14 hk), cl14 hk, h, Bool.true_and]
        by_cases e : s = t
        · rw [e, if_pos rfl, if_pos (decide_eq_true rfl)]
        · rw [if_neg (fun z => e ((nI_eq (by omega) (by omega)).mp z).symm), if_neg (by rw [decide_eq_true_eq]; exact e)]
    · have hop : opF q (wF q fo) k s = false := by rw [ho, decide_eq_false (fun z => d z.2)]
      rw [if_neg (fun z => d (e0.mp z)), hop]
      exact ⟨fun _ => rfl, fun _ _ _ => rfl⟩
  · have hop : opF q (wF q fo) k s = false := by rw [ho, decide_eq_false (fun z => by omega)]
    rw [if_pos (nI_le c (by omega)), hop]
    exact ⟨fun _ => rfl, fun _ _ _ => rfl⟩
theorem ALL_m {n b : Nat} {B Ms par : Nat → Nat} (hS : Snd n b B Ms par) (op : Nat → Nat → Bool) (wt ed fa pf mn : Nat → Int32) (sg : Int) : Sm (fun _ => true) n (fun a => Pr b (fun i => lcM n B Ms op (barF mn) wt ed fa pf sg i a)) (fun _ => 0) = ALL n B op wt ed fa pf mn sg := Sm_c (fun a => lcM_way hS op (barF mn) wt ed fa pf sg a) _ _
theorem vZ_C (P : Prop) (w : Int) : vZ (vC P w) = vC P 0 := by
  by_cases h : P
  · rw [vC_t h, vC_t h]; rfl
  · rw [vC_f h, vC_f h]; rfl
theorem ALL_Z {n : Nat} {B : Nat → Nat} {op : Nat → Nat → Bool} {wt ed fa pf mn : Nat → Int32} (z : Int) : vZ (ALL n B op wt ed fa pf mn z) = ALL n B op wt ed fa pf mn 0 := by
  unfold ALL
  rw [vZ_Sm]
  refine Sm_c (fun a => ?_) _ _
  rw [vZ_C, Int.zero_mul]
theorem nI_64 {m : Nat} (h : m < 2147483648) : (nI m).toInt64 = Int64.ofInt (m : Nat) := by rw [i64, nI_toInt h]
/-- counts agree -/
theorem cnt_eq {n : Nat} {B : Nat → Nat} {op : Nat → Nat → Bool} {wt ed fa pf mn : Nat → Int32} {sg : Int} {sum many : Int32} {c b m : Int64} (h1 : Ce sum many (ALL n B op wt ed fa pf mn 0)) (h2 : Cel sg c b m (ALL n B op wt ed fa pf mn sg)) (hB : vB (4 ^ 14) 29400000 (ALL n B op wt ed fa pf mn sg)) : many.toInt64 = c := by
  rw [← ALL_Z sg] at h1
  obtain ⟨V, hV⟩ : ∃ V, V = ALL n B op wt ed fa pf mn sg := ⟨_, rfl⟩
  rw [← hV] at h1 h2 hB
  rcases V with _ | ⟨C, X, M⟩
  · rw [h1.1 rfl, h2.1 rfl]; rfl
  · obtain ⟨a1, a2⟩ := h1.2 C 0 C rfl
    obtain ⟨b1, b2, b3⟩ := h2.2 C X M rfl
    obtain ⟨d1, d2, _⟩ := hB C X M rfl
    rw [a2, b1, nI_64 (by omega)]
theorem mx_eq {sg : Int} (hs : sg = 1 ∨ sg = -1) {v : Va} {sum many : Int32} {c b m : Int64} (h1 : Ce sum many v) (h2 : Cel sg c b m v) (hB : vB (4 ^ 14) 29400000 v) : (many = 0 ∧ lg_cmp c 0 = 0) ∨ (¬many = 0 ∧ ¬lg_cmp c 0 = 0 ∧ sum.toInt64 * (Int32.ofInt sg).toInt64 = b ∧ many.toInt64 = m) := by
  rcases v with _ | ⟨C, X, M⟩
  · left
    rw [h1.1 rfl, h2.1 rfl]
    exact ⟨rfl, by decide⟩
  · right
    obtain ⟨a1, a2⟩ := h1.2 C X M rfl
    obtain ⟨b1, b2, b3⟩ := h2.2 C X M rfl
    obtain ⟨d1, d2, d3, d4, d5⟩ := hB C X M rfl
    refine ⟨by rw [a2]; exact nI_nz d3 (by omega), ?_, ?_, ?_⟩
    · rw [b1, l_0, lg_0 (by omega) (by omega)]; omega
    · rw [a1, b2, i64, i64, i_ti (by omega), i_ti (by omega), ← Int64.ofInt_mul, Int.mul_comm]
    · rw [a2, b3, nI_64 (by omega)]
