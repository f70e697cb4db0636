/-! fits: whether all that is left can go within the limit. -/
/-- marked sets can't go -/
def StOK (n : Nat) (ar : Nat → Nat → Nat) (L : Int) (stuck : Nat → Int64) : Prop := ∀ G, G < 2 ^ n → SB stuck (lm n G) = true → ¬ FitG n ar L G
theorem lm_inj {n : Nat} (hn : n ≤ 14) {G G' : Nat} (h : G < 2 ^ n) (h' : G' < 2 ^ n) (e : lm n G = lm n G') : G = G' := by
  apply Nat.eq_of_testBit_eq
  intro i
  rcases Nat.lt_or_ge i n with z | z
  · have e2 : (lm n G).testBit i = true ↔ (lm n G').testBit i = true := by rw [e]
    rw [lm_t hn, lm_t hn] at e2
    cases a : G.testBit i <;> cases b : G'.testBit i <;> simp [a, b, z] at e2 ⊢
  · rw [Nat.testBit_lt_two_pow (Nat.lt_of_lt_of_le h (Nat.pow_le_pow_right (by decide) z)), Nat.testBit_lt_two_pow (Nat.lt_of_lt_of_le h' (Nat.pow_le_pow_right (by decide) z))]
/-- a level's state -/
def LvS (n : Nat) (ar : Nat → Nat → Nat) (G d : Nat) (lf : Nat → Int32) (nr : Nat → Nat → Int32) : Prop := GS n ar G (lf d) (nr d)
/-- the answer -/
def FAns (n : Nat) (ar : Nat → Nat → Nat) (L : Int) (G : Nat) (r : Int32) : Prop := (r = 1 ∧ FitG n ar L G) ∨ (r = 0 ∧ ¬ FitG n ar L G)
/-- what a call at level d leaves as it was -/
def Below (d : Nat) (lf ne : Nat → Int32) (nr : Nat → Nat → Int32) (lf' ne' : Nat → Int32) (nr' : Nat → Nat → Int32) : Prop := ∀ i, i < d → lf' i = lf i ∧ ne' i = ne i ∧ nr' i = nr i
theorem Below_rfl (d : Nat) (lf ne : Nat → Int32) (nr : Nat → Nat → Int32) : Below d lf ne nr lf ne nr := fun _ _ => ⟨rfl, rfl, rfl⟩
theorem Below_tr {d : Nat} {a b a' b' a2 b2 : Nat → Int32} {c c' c2 : Nat → Nat → Int32} (h : Below d a b c a' b' c') (h2 : Below d a' b' c' a2 b2 c2) : Below d a b c a2 b2 c2 := fun i hi => ⟨(h2 i hi).1.trans (h i hi).1, (h2 i hi).2.1.trans (h i hi).2.1, (h2 i hi).2.2.trans (h i hi).2.2⟩
theorem Below_mono {d d' : Nat} (hd : d ≤ d') {a b a' b' : Nat → Int32} {c c' : Nat → Nat → Int32} (h : Below d' a b c a' b' c') : Below d a b c a' b' c' := fun i hi => h i (by omega)
def FSpec (n : Nat) (ar : Nat → Nat → Nat) (lim : Int32) (FF : FitsT) (d : Nat) : Prop := ∀ (dep G : Nat) (stuck : Nat → Int64) (lf ne : Nat → Int32) (nr : Nat → Nat → Int32), d ≤ dep → dep ≤ 14 → dep ≤ pcU n G → LvS n ar G dep lf nr → StOK n ar lim.toInt stuck → ∃ r stuck' lf' ne' nr', FF (nI dep) lim stuck lf ne nr = some (r, stuck', lf', ne', nr') ∧ FAns n ar lim.toInt G r ∧ StOK n ar lim.toInt stuck' ∧ Below dep lf ne nr lf' ne' nr'
theorem cl15 {k : Nat} (h : k ≤ 15) : (nI k).toNatClampNeg = k := nI_clamp (by omega)
theorem ck_ok {β : Type} {i : Int32} {n : Nat} {k : Option β} (h : okI i n) : ckI i n k = k := if_pos h
theorem in15 {k : Nat} (h : k < 15) : okI (nI k) 15 := nI_in (c := k) (N := 15) h (by decide)
theorem vus {α : Type} {f : Nat → α} {k : Nat} {x : α} : va_up f k x k = x := if_pos rfl
theorem vun {α : Type} {f : Nat → α} {k j : Nat} {x : α} (h : j ≠ k) : va_up f k x j = f j := if_neg h
theorem bnd01 {r : Int32} {P Q : Prop} (h : (r = 1 ∧ P) ∨ (r = 0 ∧ Q)) : r = 0 ∨ r = 1 := by
  rcases h with z | z
  · exact Or.inr z.1
  · exact Or.inl z.1
theorem GS_cpy {n : Nat} {ar : Nat → Nat → Nat} {G : Nat} {left : Int32} {near g : Nat → Int32} (S : GS n ar G left near) : GS n ar G left (va_cpy near g 0 0 14) := ⟨S.1, S.2.1, fun j hj => by
  rw [pk_cpy_in (Nat.zero_le _) (by omega), show 0 + (j - 0) = j from by omega]
  exact S.2.2 j hj⟩
/-- a knot goes next at level d -/
theorem behindL {n : Nat} {B : Nat → Nat} {ar : Nat → Nat → Nat} (A : ArS n B ar) (hn : n ≤ 14) {lim : Int32} {FF : FitsT} {d : Nat} (hF : FSpec n ar lim FF (d + 1)) (hd : d + 1 ≤ 14) {G k : Nat} (hk : k < 14) (hg : d ≤ pcU n G) {stuck : Nat → Int64} {lf ne : Nat → Int32} {nr : Nat → Nat → Int32} (S : LvS n ar G d lf nr) (hS : StOK n ar lim.toInt stuck) : ∃ r stuck' lf' ne' nr', f_X6_fitsBehindL FF d (nI k) (nI (d + 1)) lim stuck lf ne nr = some (r, stuck', lf', ne', nr') ∧ ((r = 1 ∧ k < n ∧ G.testBit k = false ∧ (pcN (ar G k) : Int) ≤ lim.toInt ∧ FitG n ar lim.toInt (G ||| 2 ^ k)) ∨ (r = 0 ∧ ¬ (k < n ∧ G.testBit k = false ∧ (pcN (ar G k) : Int) ≤ lim.toInt ∧ FitG n ar lim.toInt (G ||| 2 ^ k)))) ∧ StOK n ar lim.toInt stuck' ∧ Below (d + 1) lf ne nr lf' ne' nr' := by
  have S0 := S
  obtain ⟨hG, el, R⟩ := S
  unfold f_X6_fitsBehindL
  rw [el]
  by_cases b : (lm n G).testBit k = true
  · obtain ⟨q1, q2⟩ := (lm_t hn).mp b
    have ek : nr d k = nI (ar G k) := by rw [(R k hk).1, show gA n ar G k = ar G k from if_pos b]
    have lk := ar_lt A hn hG q1
    rw [cal_e (hasB1 (lm_lt hn G) hk b), if_neg n10, ld_ok _ (in14 hk), cl14 hk, ek, cal_e (bitCount_n lk)]
    have hp := pcN_le (ar G k)
    by_cases c : nI (pcN (ar G k)) ≤ lim
    · have c2 := ple c
      rw [nI_toInt (by omega)] at c2
      rw [if_pos c, ck_ok (in15 (by omega)), chk_ok (show d ≠ (nI (d + 1)).toNatClampNeg by rw [cl15 (by omega)]; omega), cl15 (by omega)]
      have e1 : f_X1_startAs (lf (d + 1)) (ne (d + 1)) (nr (d + 1)) (nI (lm n G)) (ne d) (nr d) = some (nI (lm n G), ne d, va_cpy (nr d) (nr (d + 1)) 0 0 14) := rfl
      rw [cal_e e1, ck_ok (in15 (by omega))]
      obtain ⟨e0, _, he0⟩ := wb_of32' (ne d)
      have S1 : GS n ar G (nI (lm n G)) (va_cpy (nr d) (nr (d + 1)) 0 0 14) := GS_cpy ⟨hG, rfl, R⟩
      obtain ⟨left', near', g1, g2⟩ := letGo_g (e := e0) A hn S1 q1 q2
      have e2 : f_X1_letGo (nI k) ((upd lf (d + 1) (nI (lm n G))) (d + 1)) ((upd ne (d + 1) (ne d)) (d + 1)) ((va_up nr (d + 1) (va_cpy (nr d) (nr (d + 1)) 0 0 14)) (d + 1)) = some (left', nI (e0 + flE n ar G k), near') := by
        rw [pk_us, pk_us, vus, he0]; exact g1
      dsimp only
      rw [cal_e e2]
      dsimp only
      have hpc := pcU_add (k := n) q1 q2
      obtain ⟨r, st', lf', ne', nr', h1, h2, h3, h4⟩ := hF (d + 1) (G ||| 2 ^ k) stuck (upd (upd lf (d + 1) (nI (lm n G))) (d + 1) left') (upd (upd ne (d + 1) (ne d)) (d + 1) (nI (e0 + flE n ar G k))) (va_up (va_up nr (d + 1) (va_cpy (nr d) (nr (d + 1)) 0 0 14)) (d + 1) near') (Nat.le_refl _) hd (by omega) (by
        unfold LvS
        rw [pk_us, vus]; exact g2) hS
      rw [cal_e h1]
      dsimp only
      rw [chk_ok (bnd01 h2)]
      refine ⟨r, st', lf', ne', nr', rfl, ?_, h3, fun i hi => ?_⟩
      · rcases h2 with ⟨z1, z2⟩ | ⟨z1, z2⟩
        · exact Or.inl ⟨z1, q1, q2, c2, z2⟩
        · exact Or.inr ⟨z1, fun w => z2 w.2.2.2⟩
      · obtain ⟨w1, w2, w3⟩ := h4 i hi
        rw [w1, w2, w3, pk_un (by omega), pk_un (by omega), pk_un (by omega), pk_un (by omega), vun (by omega), vun (by omega)]
        exact ⟨rfl, rfl, rfl⟩
    · have c2 := nle c
      rw [nI_toInt (by omega)] at c2
      rw [if_neg c]
      exact ⟨0, stuck, lf, ne, nr, rfl, Or.inr ⟨rfl, fun w => by have := w.2.2.1; omega⟩, hS, Below_rfl _ _ _ _⟩
  · rw [cal_e (hasB0 (lm_lt hn G) hk (bf b)), if_pos rfl]
    exact ⟨0, stuck, lf, ne, nr, rfl, Or.inr ⟨rfl, fun w => b ((lm_t hn).mpr ⟨w.1, w.2.1⟩)⟩, hS, Below_rfl _ _ _ _⟩
/-- that no knot below j can go next -/
theorem l_90 {n : Nat} {B : Nat → Nat} {ar : Nat → Nat → Nat} (A : ArS n B ar) (hn : n ≤ 14) {lim : Int32} {FF : FitsT} {d : Nat} (hF : FSpec n ar lim FF (d + 1)) (hd : d + 1 ≤ 14) {G : Nat} (hg : d ≤ pcU n G) (h0 : lc n G ≠ 0) : ∀ (f j : Nat) (stuck : Nat → Int64) (lf ne : Nat → Int32) (nr : Nat → Nat → Int32), j ≤ 14 → 14 - j < f → LvS n ar G d lf nr → StOK n ar lim.toInt stuck → (∀ k, k < j → ¬ (k < n ∧ G.testBit k = false ∧ (pcN (ar G k) : Int) ≤ lim.toInt ∧ FitG n ar lim.toInt (G ||| 2 ^ k))) → ∃ r stuck' lf' ne' nr', L_X6_fitsG_90 FF (nI d) lim f (nI j) stuck lf ne nr = some (r, stuck', lf', ne', nr') ∧ FAns n ar lim.toInt G r ∧ StOK n ar lim.toInt stuck' ∧ Below d lf ne nr lf' ne' nr' := by
  intro f
  induction f with
  | zero => intro j stuck lf ne nr h1 h2; omega
  | succ f ih =>
    intro j stuck lf ne nr hj hf S hS hN
    rw [L_X6_fitsG_90]
    rcases Nat.lt_or_ge j 14 with h | h
    · rw [if_neg (ge14 h), cl15 (by omega), nI_1]
      obtain ⟨r, st', lf', ne', nr', h1, h2, h3, h4⟩ := behindL A hn hF hd h hg S hS
      rw [cal_e h1]
      dsimp only
      rcases h2 with ⟨z1, z2⟩ | ⟨z1, z2⟩
      · rw [z1, if_neg n10]
        exact ⟨1, st', lf', ne', nr', rfl, Or.inl ⟨rfl, FitG_step z2.1 z2.2.1 z2.2.2.1 z2.2.2.2⟩, h3, Below_mono (by omega) h4⟩
      · rw [z1, if_pos rfl, bnd_s, nI_1]
        have hd4 := h4 d (by omega)
        obtain ⟨r2, s2, a2, b2, c2, g1, g2, g3, g4⟩ := ih (j + 1) st' lf' ne' nr' (by omega) (by omega) (by unfold LvS; rw [hd4.1, hd4.2.2]; exact S) h3 (fun k hk => by
          by_cases e : k = j
          · subst e; exact z2
          · exact hN k (by omega))
        exact ⟨r2, s2, a2, b2, c2, g1, g2, g3, Below_tr (Below_mono (by omega) h4) g4⟩
    · have e : j = 14 := by omega
      subst e
      have hnf : ¬ FitG n ar lim.toInt G := by
        intro F
        obtain ⟨i, i1, i2⟩ := lc_pos hn h0
        obtain ⟨v, v1, v2⟩ := FitG_ex i1 i2 F
        exact hN v (by omega) ⟨v1, v2⟩
      have hl := lm_lt hn G
      rw [if_pos le14, cl15 (by omega), S.2.1, sh6n hl, ld_ok _ (in256 (by omega)), nI_clamp (by omega), m63]
      unfold stJ
      rw [if_pos (in256 (by omega)), nI_clamp (by omega)]
      refine ⟨0, _, lf, ne, nr, rfl, Or.inr ⟨rfl, hnf⟩, fun G' hG' hb => ?_, Below_rfl _ _ _ _⟩
      rcases SB_upd hb with z | z
      · exact hS G' hG' z
      · rw [lm_inj hn hG' S.1 z]; exact hnf
theorem j_46 {n : Nat} {B : Nat → Nat} {ar : Nat → Nat → Nat} (A : ArS n B ar) (hn : n ≤ 14) {lim : Int32} (hlim : -1 ≤ lim.toInt ∧ lim.toInt ≤ 63) {FF : FitsT} {d : Nat} (hF : FSpec n ar lim FF (d + 1)) (hd : d ≤ 14) {G : Nat} (hg : d ≤ pcU n G) {stuck : Nat → Int64} {lf ne : Nat → Int32} {nr : Nat → Nat → Int32} (S : LvS n ar G d lf nr) (hS : StOK n ar lim.toInt stuck) : ∃ r stuck' lf' ne' nr', J_X6_fitsG_46 FF (nI d) lim stuck lf ne nr = some (r, stuck', lf', ne', nr') ∧ FAns n ar lim.toInt G r ∧ StOK n ar lim.toInt stuck' ∧ Below d lf ne nr lf' ne' nr' := by
  have hl := lm_lt hn G
  have hp := pcN_le (lm n G)
  have l1 : (1 : Int32).toInt = 1 := rfl
  have k1 : (lim + (1 : Int32)).toInt = lim.toInt + (1 : Int32).toInt := ti_add (by omega) (by omega)
  have epc := lm_pc hn G
  unfold J_X6_fitsG_46
  rw [cl15 (by omega), S.2.1, cal_e (bitCount_n hl)]
  by_cases c : lim + (1 : Int32) < nI (pcN (lm n G))
  · have c2 := plt c
    rw [nI_toInt (by omega)] at c2
    have hpu := pcU_le n G
    have hlc : lc n G = n - pcU n G := rfl
    have hd2 : d + 1 ≤ 14 := by omega
    rw [if_pos c, nI_1, if_neg (show ¬ (15 : Int32) ≤ nI (d + 1) from nI_ge (b := 15) (by omega) (by decide)), cal_e (isStuck_n hl stuck)]
    by_cases s : SB stuck (lm n G) = true
    · rw [if_pos s, if_neg n10]
      exact ⟨0, stuck, lf, ne, nr, rfl, Or.inr ⟨rfl, hS G S.1 s⟩, hS, Below_rfl _ _ _ _⟩
    · rw [if_neg s, if_pos rfl, bnd_s]
      obtain ⟨r, s2, a2, b2, c3, g1, g2⟩ := l_90 A hn hF hd2 hg (by omega) NN 0 stuck lf ne nr (by omega) (by decide) S hS (fun k hk => by omega)
      exact ⟨r, s2, a2, b2, c3, g1, g2⟩
  · have c2 := nlt c
    rw [nI_toInt (by omega)] at c2
    rw [if_neg c]
    exact ⟨1, stuck, lf, ne, nr, rfl, Or.inl ⟨rfl, FitG_few A hn S.1 (by omega)⟩, hS, Below_rfl _ _ _ _⟩
theorem l_9 {n : Nat} {B : Nat → Nat} {ar : Nat → Nat → Nat} (A : ArS n B ar) (hn : n ≤ 14) {lim : Int32} (hlim : -1 ≤ lim.toInt ∧ lim.toInt ≤ 63) {FF : FitsT} {d : Nat} (hF : FSpec n ar lim FF (d + 1)) (hd : d ≤ 14) : ∀ (f j G : Nat) (stuck : Nat → Int64) (lf ne : Nat → Int32) (nr : Nat → Nat → Int32), j ≤ 14 → 14 - j < f → d ≤ pcU n G → LvS n ar G d lf nr → StOK n ar lim.toInt stuck → ∃ r stuck' lf' ne' nr', L_X6_fitsG_9 FF (nI d) lim f (nI j) stuck lf ne nr = some (r, stuck', lf', ne', nr') ∧ FAns n ar lim.toInt G r ∧ StOK n ar lim.toInt stuck' ∧ Below d lf ne nr lf' ne' nr' := by
  intro f
  induction f with
  | zero => intro j G stuck lf ne nr h1 h2; omega
  | succ f ih =>
    intro j G stuck lf ne nr hj hf hg S hS
    rw [L_X6_fitsG_9]
    rcases Nat.lt_or_ge j 14 with h | h
    · rw [if_neg (ge14 h), cl15 (by omega)]
      rcases harm_g A hn lim S with z | ⟨q, q1, q2, q3, q4, q5⟩
      · rw [cal_e z, bnd_s, if_pos rfl]
        exact j_46 A hn hlim hF hd hg S hS
      · rw [cal_e q2, bnd_s, if_neg (fun z => by have := congrArg Int32.toInt z; rw [nI_toInt (by omega)] at this; have l : (-1 : Int32).toInt = -1 := rfl; omega)]
        obtain ⟨e0, _, he0⟩ := wb_of32' (ne d)
        obtain ⟨left', near', g1, g2⟩ := letGo_g (e := e0) A hn S q1 q3
        rw [he0, cal_e g1, bnd_s, nI_1]
        dsimp only
        have hpc := pcU_add (k := n) q1 q3
        obtain ⟨r, s2, a2, b2, c2, g3, g4, g5, g6⟩ := ih (j + 1) (G ||| 2 ^ q) stuck (upd lf d left') (upd ne d (nI (e0 + flE n ar G q))) (va_up nr d near') (by omega) (by omega) (by omega) (by unfold LvS; rw [pk_us, vus]; exact g2) hS
        refine ⟨r, s2, a2, b2, c2, g3, ?_, g5, fun i hi => ?_⟩
        · rcases g4 with ⟨z1, z2⟩ | ⟨z1, z2⟩
          · exact Or.inl ⟨z1, q5.mpr z2⟩
          · exact Or.inr ⟨z1, fun w => z2 (q5.mp w)⟩
        · obtain ⟨w1, w2, w3⟩ := g6 i hi
          rw [w1, w2, w3, pk_un (by omega), pk_un (by omega), vun (by omega)]
          exact ⟨rfl, rfl, rfl⟩
    · have e : j = 14 := by omega
      subst e
      rw [if_pos le14]
      exact j_46 A hn hlim hF hd hg S hS
theorem fits_n {n : Nat} {B : Nat → Nat} {ar : Nat → Nat → Nat} (A : ArS n B ar) (hn : n ≤ 14) {lim : Int32} (hlim : -1 ≤ lim.toInt ∧ lim.toInt ≤ 63) : ∀ D : Nat, FSpec n ar lim (f_X6_fits D) (15 - D) := by
  intro D
  induction D with
  | zero => intro dep G stuck lf ne nr h1 h2; omega
  | succ D ih =>
    intro dep G stuck lf ne nr h1 h2 h3 S hS
    rw [f_X6_fits]
    unfold f_X6_fitsG
    rw [ck_ok (in15 (by omega)), bnd_s]
    have hF : FSpec n ar lim (f_X6_fits D) (dep + 1) := fun d2 G2 s2 l2 e2 r2 k1 => ih d2 G2 s2 l2 e2 r2 (by omega)
    obtain ⟨r, s2, a2, b2, c2, g1, g2⟩ := l_9 A hn hlim hF h2 NN 0 G stuck lf ne nr (by omega) (by decide) h3 S hS
    exact ⟨r, s2, a2, b2, c2, g1, g2⟩
