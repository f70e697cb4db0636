/-! least: the class's search. -/
theorem sJ_ok {β : Type} {f : Nat → Int64} {n : Nat} {i : Int32} {x : Int64} (k : (Nat → Int64) → Option β) (h : okI i n) : stJ f n i x k = k (vp_updL f i.toNatClampNeg x) := if_pos h
theorem l_fill (a1 : Int64) : ∀ (f j : Nat) (u : Nat → Int64), j ≤ 256 → 256 - j < f → (∀ i, i < j → u i = a1) → ∃ u', L_J7_fill_d0a16_6 256 a1 f (nI j) (nI 256) u = some u' ∧ ∀ i, i < 256 → u' i = a1 := by
  intro f
  induction f with
  | zero => intro j u h1 h2; omega
  | succ f ih =>
    intro j u hj hf hu
    rw [L_J7_fill_d0a16_6]
    rcases Nat.lt_or_ge j 256 with h | h
    · rw [if_neg (nI_ge h (by decide))]
      rw [sJ_ok _ (in256 h), nI_clamp (by omega), bnd_s, nI_1]
      refine ih (j + 1) _ (by omega) (by omega) fun i hi => ?_
      by_cases e : i = j
      · subst e; exact pk_uLs
      · rw [pk_uLn e]; exact hu i (by omega)
    · have e : j = 256 := by omega
      subst e
      rw [if_pos (nI_le (Nat.le_refl _) (by decide))]
      exact ⟨u, rfl, hu⟩
theorem fill_n (u : Nat → Int64) : ∃ u', f_J7_fill_d0a16 256 0 u = some u' ∧ ∀ i, i < 256 → u' i = 0 := by
  unfold f_J7_fill_d0a16
  rw [bnd_s, bnd_s]
  obtain ⟨u', h1, h2⟩ := l_fill 0 NN 0 u (by omega) (by decide) (fun i hi => by omega)
  exact ⟨u', h1, h2⟩
theorem St_0 {n : Nat} (hn : n ≤ 14) {ar : Nat → Nat → Nat} {L : Int} {u : Nat → Int64} (h : ∀ i, i < 256 → u i = 0) : StOK n ar L u := by
  intro G hG hb
  have hl := lm_lt hn G
  unfold SB at hb
  rw [h _ (by omega), show (0 : Int64).toBitVec = 0#64 from rfl, BitVec.getLsbD_zero] at hb
  cases hb
theorem netFits_n {n : Nat} {B : Nat → Nat} {near0 : Nat → Int32} (N : NetN n B near0) {lim : Int32} (hlim : -1 ≤ lim.toInt ∧ lim.toInt ≤ 63) (tl : Int32) (stuck : Nat → Int64) (lf ne : Nat → Int32) (nr : Nat → Nat → Int32) : ∃ r st lf' ne' nr', f_X6_netFits lim (nI n) near0 tl stuck lf ne nr = some (r, lim, st, lf', ne', nr') ∧ FAns n (arN near0 (nI n)) lim.toInt 0 r ∧ StOK n (arN near0 (nI n)) lim.toInt st := by
  have hn := N.1
  unfold f_X6_netFits
  obtain ⟨u', f1, f2⟩ := fill_n stuck
  obtain ⟨l1, n1, h1, S⟩ := start_g N (lf ((0 : Int32).toNatClampNeg)) (ne ((0 : Int32).toNatClampNeg)) (nr ((0 : Int32).toNatClampNeg))
  rw [bnd_s, cal_e f1, ck_ok (show okI (0 : Int32) 15 from in15 (k := 0) (by decide)), cal_e h1]
  dsimp only
  have e0 : (0 : Int32).toNatClampNeg = 0 := rfl
  obtain ⟨r, st, lf', ne', nr', g1, g2, g3, _⟩ := fits_n (arS_n N) hn hlim 16 0 0 u' (upd lf ((0 : Int32).toNatClampNeg) l1) (upd ne ((0 : Int32).toNatClampNeg) 0) (va_up nr ((0 : Int32).toNatClampNeg) n1) (by decide) (by decide) (Nat.zero_le _) (by
    unfold LvS
    rw [e0, pk_us, vus]; exact S) (St_0 hn f2)
  rw [cal_e (show f_X6_fits 16 (0 : Int32) lim u' _ _ _ = _ from g1)]
  dsimp only
  rw [chk_ok (bnd01 g2)]
  exact ⟨r, st, lf', ne', nr', rfl, g2, g3⟩
def Good (n : Nat) (ar : Nat → Nat → Nat) (L : Int) (G k : Nat) : Prop := k < n ∧ G.testBit k = false ∧ (pcN (ar G k) : Int) ≤ L ∧ FitG n ar L (G ||| 2 ^ k)
def Best (n : Nat) (ar : Nat → Nat → Nat) (L : Int) (G k : Nat) : Prop := Good n ar L G k ∧ ∀ j, j < k → ¬ Good n ar L G j
theorem Best_uniq {n : Nat} {ar : Nat → Nat → Nat} {L : Int} {G k k' : Nat} (h : Best n ar L G k) (h' : Best n ar L G k') : k = k' := by
  rcases Nat.lt_trichotomy k k' with z | z | z
  · exact absurd h.1 (h'.2 k z)
  · exact z
  · exact absurd h'.1 (h.2 k' z)
theorem behindR {n : Nat} {B : Nat → Nat} {ar : Nat → Nat → Nat} (A : ArS n B ar) (hn : n ≤ 14) {lim : Int32} (hlim : -1 ≤ lim.toInt ∧ lim.toInt ≤ 63) {G k : Nat} (hk : k < 14) {left : Int32} (ne0 : Int32) {near : Nat → Int32} (S : GS n ar G left near) (stuck : Nat → Int64) (lf ne : Nat → Int32) (nr : Nat → Nat → Int32) (hS : StOK n ar lim.toInt stuck) : ∃ r st lf' ne' nr', f_X6_fitsBehindR (f_X6_fits 16) (nI k) (0 : Int32) lim left ne0 near stuck lf ne nr = some (r, st, lf', ne', nr') ∧ ((r = 1 ∧ Good n ar lim.toInt G k) ∨ (r = 0 ∧ ¬ Good n ar lim.toInt G k)) ∧ StOK n ar lim.toInt st := by
  obtain ⟨hG, rfl, R⟩ := S
  have e0 : (0 : Int32).toNatClampNeg = 0 := rfl
  have o15 : okI (0 : Int32) 15 := in15 (k := 0) (by decide)
  unfold f_X6_fitsBehindR
  by_cases b : (lm n G).testBit k = true
  · obtain ⟨q1, q2⟩ := (lm_t hn).mp b
    have ek : near k = nI (ar G k) := by rw [(R k hk).1, show gA n ar G k = ar G k from if_pos b]
    have lk := ar_lt A hn hG q1
    rw [cal_e (hasB1 (lm_lt hn G) hk b), if_neg n10, ld_ok _ (in14 hk), cl14 hk, ek, cal_e (bitCount_n lk)]
    have hp := pcN_le (ar G k)
    by_cases c : nI (pcN (ar G k)) ≤ lim
    · have c2 := ple c
      rw [nI_toInt (by omega)] at c2
      have e1 : f_X1_startAs (lf 0) (ne 0) (nr 0) (nI (lm n G)) ne0 near = some (nI (lm n G), ne0, va_cpy near (nr 0) 0 0 14) := rfl
      rw [if_pos c, ck_ok o15, e0, cal_e e1, ck_ok o15]
      obtain ⟨q0, _, hq0⟩ := wb_of32' ne0
      have S1 : GS n ar G (nI (lm n G)) (va_cpy near (nr 0) 0 0 14) := GS_cpy ⟨hG, rfl, R⟩
      obtain ⟨left', near', g1, g2⟩ := letGo_g (e := q0) A hn S1 q1 q2
      have e2 : f_X1_letGo (nI k) ((upd lf 0 (nI (lm n G))) 0) ((upd ne 0 ne0) 0) ((va_up nr 0 (va_cpy near (nr 0) 0 0 14)) 0) = some (left', nI (q0 + flE n ar G k), near') := by
        rw [pk_us, pk_us, vus, hq0]; exact g1
      dsimp only
      rw [cal_e e2]
      dsimp only
      obtain ⟨r, st', lf', ne', nr', h1, h2, h3, h4⟩ := fits_n A hn hlim 16 0 (G ||| 2 ^ k) stuck (upd (upd lf 0 (nI (lm n G))) 0 left') (upd (upd ne 0 ne0) 0 (nI (q0 + flE n ar G k))) (va_up (va_up nr 0 (va_cpy near (nr 0) 0 0 14)) 0 near') (by decide) (by decide) (Nat.zero_le _) (by
        unfold LvS
        rw [pk_us, vus]; exact g2) hS
      rw [cal_e (show f_X6_fits 16 (0 : Int32) lim stuck _ _ _ = _ from h1)]
      dsimp only
      rw [chk_ok (bnd01 h2)]
      refine ⟨r, st', lf', ne', nr', rfl, ?_, h3⟩
      rcases h2 with ⟨z1, z2⟩ | ⟨z1, z2⟩
      · exact Or.inl ⟨z1, q1, q2, c2, z2⟩
      · exact Or.inr ⟨z1, fun w => z2 w.2.2.2⟩
    · have c2 := nle c
      rw [nI_toInt (by omega)] at c2
      rw [if_neg c]
      exact ⟨0, stuck, lf, ne, nr, rfl, Or.inr ⟨rfl, fun w => by have := w.2.2.1; omega⟩, hS⟩
  · rw [cal_e (hasB0 (lm_lt hn G) hk (bf b)), if_pos rfl]
    exact ⟨0, stuck, lf, ne, nr, rfl, Or.inr ⟨rfl, fun w => b ((lm_t hn).mpr ⟨w.1, w.2.1⟩)⟩, hS⟩
/-- each knot of a row is the least that can go then -/
def LO (n : Nat) (ar : Nat → Nat → Nat) (L : Int) (row : Nat → Int32) (i : Nat) : Prop := ∀ j, j < i → ∃ k, k < n ∧ row j = nI k ∧ Best n ar L (rmN row j) k
theorem LO_row {n : Nat} {ar : Nat → Nat → Nat} {L : Int} {row : Nat → Int32} {i : Nat} (h : LO n ar L row i) : RowN n row i := fun j hj => by
  obtain ⟨k, k1, k2, _⟩ := h j hj
  exact ⟨k, k1, k2⟩
theorem LO_uniq {n : Nat} {ar : Nat → Nat → Nat} {L : Int} {f g : Nat → Int32} : ∀ i, LO n ar L f i → LO n ar L g i → ∀ j, j < i → f j = g j := by
  intro i hf hg j
  induction j using Nat.strongRecOn with
  | _ j ih =>
    intro hj
    obtain ⟨k, k1, k2, k3⟩ := hf j hj
    obtain ⟨q, q1, q2, q3⟩ := hg j hj
    have e : rmN f j = rmN g j := rmN_congr j (fun l hl => ih l hl (by omega))
    rw [← e] at q3
    rw [k2, q2, Best_uniq k3 q3]
theorem LO_app {n : Nat} {ar : Nat → Nat → Nat} {L : Int} {row : Nat → Int32} {i k : Nat} (h : LO n ar L row i) (hB : Best n ar L (rmN row i) k) : LO n ar L (upd row i (nI k)) (i + 1) := by
  intro j hj
  have e : rmN (upd row i (nI k)) j = rmN row j := rmN_upd row i (nI k) j (by omega)
  rw [e]
  by_cases z : j = i
  · subst z; exact ⟨k, hB.1.1, pk_us, hB⟩
  · obtain ⟨q, q1, q2, q3⟩ := h j (by omega)
    exact ⟨q, q1, by rw [pk_un z]; exact q2, q3⟩
theorem bo_51 {n : Nat} {B : Nat → Nat} {ar : Nat → Nat → Nat} (A : ArS n B ar) (hn : n ≤ 14) {lim : Int32} (hlim : -1 ≤ lim.toInt ∧ lim.toInt ≤ 63) {G : Nat} {left : Int32} (ne0 : Int32) {near : Nat → Int32} (S : GS n ar G left near) (a3 us : Int32) (un : Nat → Int32) (kk : Int32 → Int32 → Int32 → Int32 → (Nat → Int32) → Int32 → Int32 → Int32 → (Nat → Int32) → (Nat → Int64) → (Nat → Int32) → (Nat → Int32) → (Nat → Nat → Int32) → Option (Int32 × Int32 × Int32 × (Nat → Int32) × Int32 × Int32 × Int32 × (Nat → Int32) × (Nat → Int64) × (Nat → Int32) × (Nat → Int32) × (Nat → Nat → Int32))) (x4 x5 vs vh : Int32) (vk : Nat → Int32) (hex : ∃ k, Good n ar lim.toInt G k) : ∀ (f j : Nat) (stuck : Nat → Int64) (lf ne : Nat → Int32) (nr : Nat → Nat → Int32), j ≤ 13 → 13 - j < f → (∀ k, k < j → ¬ Good n ar lim.toInt G k) → StOK n ar lim.toInt stuck → ∃ k st lf' ne' nr', Best n ar lim.toInt G k ∧ StOK n ar lim.toInt st ∧ L_X6_bestOrder_51 a3 us un kk f x4 x5 (nI j) vs vh vk lim left ne0 near stuck lf ne nr = J_X6_bestOrder_78 a3 us un kk x4 x5 (nI k) vs vh vk lim left ne0 near st lf' ne' nr' := by
  intro f
  induction f with
  | zero => intro j stuck lf ne nr h1 h2; omega
  | succ f ih =>
    intro j stuck lf ne nr hj hf hN hS
    rw [L_X6_bestOrder_51]
    rcases Nat.lt_or_ge j 13 with h | h
    · rw [if_neg (show ¬ (13 : Int32) ≤ nI j from nI_ge (b := 13) h (by decide))]
      obtain ⟨r, st, lf', ne', nr', h1, h2, h3⟩ := behindR A hn hlim (k := j) (by omega) ne0 S stuck lf ne nr hS
      rw [cal_e h1]
      dsimp only
      rcases h2 with ⟨z1, z2⟩ | ⟨z1, z2⟩
      · rw [z1, if_neg n10]
        exact ⟨j, st, lf', ne', nr', ⟨z2, hN⟩, h3, rfl⟩
      · rw [z1, if_pos rfl, bnd_s, nI_1]
        exact ih (j + 1) st lf' ne' nr' (by omega) (by omega) (fun k hk => by
          by_cases e : k = j
          · subst e; exact z2
          · exact hN k (by omega)) h3
    · have e : j = 13 := by omega
      subst e
      rw [if_pos (show (13 : Int32) ≤ nI 13 from nI_le (Nat.le_refl 13) (by decide))]
      refine ⟨13, stuck, lf, ne, nr, ⟨?_, hN⟩, hS, rfl⟩
      obtain ⟨k, hk⟩ := hex
      rcases Nat.lt_or_ge k 13 with z | z
      · exact absurd hk (hN k z)
      · have := hk.1
        rw [show (13 : Nat) = k from by omega]; exact hk
theorem bo_39 {n : Nat} {B : Nat → Nat} {near0 : Nat → Int32} (N : NetN n B near0) {lim : Int32} (hlim : -1 ≤ lim.toInt ∧ lim.toInt ≤ 63) (a3 : Int32) : ∀ (m i G f : Nat) (knots : Nat → Int32) (rl rne : Int32) (rn : Nat → Int32) (st : Nat → Int64) (lf ne : Nat → Int32) (nr : Nat → Nat → Int32), i + m = n → m < f → rmN knots i = G → lc n G = m → LO n (arN near0 (nI n)) lim.toInt knots i → FitG n (arN near0 (nI n)) lim.toInt G → GS n (arN near0 (nI n)) G rl rn → StOK n (arN near0 (nI n)) lim.toInt st → ∃ knots' b c d e s1 s2 s3, L_X6_bestOrder_39 a3 (nI n) near0 f lim (nI i) (nI i) (nI G) knots lim rl rne rn st lf ne nr = some (lim, nI n, nI (2 ^ n - 1), knots', lim, b, c, d, e, s1, s2, s3) ∧ LO n (arN near0 (nI n)) lim.toInt knots' n ∧ rmN knots' n = 2 ^ n - 1 := by
  have hn := N.1
  have A := arS_n N
  intro m
  induction m with
  | zero =>
    intro i G f knots rl rne rn st lf ne nr hi hf hr hl hL hF S hS
    obtain ⟨f, rfl⟩ := Nat.exists_eq_succ_of_ne_zero (show f ≠ 0 by omega)
    have e1 : i = n := by omega
    subst e1
    have eG := lc0 hn S.1 hl
    refine ⟨knots, rl, rne, rn, st, lf, ne, nr, ?_, hL, by rw [hr, eG]⟩
    rw [L_X6_bestOrder_39, if_pos (nI_le (Nat.le_refl _) (by omega)), eG]
  | succ m ih =>
    intro i G f knots rl rne rn st lf ne nr hi hf hr hl hL hF S hS
    obtain ⟨f, rfl⟩ := Nat.exists_eq_succ_of_ne_zero (show f ≠ 0 by omega)
    obtain ⟨v, v1, v2⟩ := lc_pos hn (G := G) (by omega)
    obtain ⟨v', w1, w2, w3, w4⟩ := FitG_ex v1 v2 hF
    obtain ⟨k, st', lf', ne', nr', k1, k2, k3⟩ := bo_51 A hn hlim rne S a3 (nI n) near0 (fun y0 y1 y2 y3 y4 y5 y6 y7 y8 y9 y10 y11 y12 => L_X6_bestOrder_39 a3 (nI n) near0 f y0 y1 y2 y3 y4 y5 y6 y7 y8 y9 y10 y11 y12) lim (nI i) (nI i) (nI G) knots ⟨v', w1, w2, w3, w4⟩ NN 0 st lf ne nr (by omega) (by decide) (fun k hk => by omega) hS
    rw [L_X6_bestOrder_39, if_neg (nI_ge (by omega) (by omega)), bnd_s]
    obtain ⟨q0, _, hq0⟩ := wb_of32' rne
    obtain ⟨left', near', g1, g2⟩ := letGo_g (e := q0) A hn S k1.1.1 k1.1.2.1
    have hkn := k1.1.1
    have hlc := lc_step k1.1.1 k1.1.2.1
    obtain ⟨knots', b, c, d, e, s1, s2, s3, h1, h2, h3⟩ := ih (i + 1) (G ||| 2 ^ k) f (upd knots i (nI k)) left' (nI (q0 + flE n (arN near0 (nI n)) G k)) near' st' lf' ne' nr' (by omega) (by omega) (by rw [rmN_app2 knots i (by omega), hr]) (by omega) (LO_app hL (by rw [hr]; exact k1)) k1.1.2.2.2 g2 k2
    refine ⟨knots', b, c, d, e, s1, s2, s3, k3.trans ?_, h2, h3⟩
    unfold J_X6_bestOrder_78
    rw [cal_e (app_n (by omega) (by omega) knots), hq0, cal_e g1, bnd_s, nI_1]
    exact h1
theorem bo_3 {n : Nat} {B : Nat → Nat} {near0 : Nat → Int32} (N : NetN n B near0) {W : Int32} (hW : -1 ≤ W.toInt ∧ W.toInt < (n : Int) ∨ W.toInt = -1) (hF : FitG n (arN near0 (nI n)) W.toInt 0) (hmin : ∀ L : Int, -1 ≤ L → L < W.toInt → ¬ FitG n (arN near0 (nI n)) L 0) (a3 : Int32) (knots : Nat → Int32) : ∀ (m f : Nat) (x4 tl rl rne : Int32) (rn : Nat → Int32) (st : Nat → Int64) (lf ne : Nat → Int32) (nr : Nat → Nat → Int32), -1 ≤ x4.toInt → x4.toInt + m = W.toInt → m < f → ∃ knots' b c d e s1 s2 s3, L_X6_bestOrder_3 a3 (nI n) near0 f x4 0 0 knots tl rl rne rn st lf ne nr = some (W, nI n, nI (2 ^ n - 1), knots', W, b, c, d, e, s1, s2, s3) ∧ LO n (arN near0 (nI n)) W.toInt knots' n ∧ rmN knots' n = 2 ^ n - 1 := by
  have hn := N.1
  have l1 : (1 : Int32).toInt = 1 := rfl
  intro m
  induction m with
  | zero =>
    intro f x4 tl rl rne rn st lf ne nr h1 h2 hf
    obtain ⟨f, rfl⟩ := Nat.exists_eq_succ_of_ne_zero (show f ≠ 0 by omega)
    have ex : x4 = W := Int32.toInt_inj.mp (by omega)
    subst ex
    have hlim : -1 ≤ x4.toInt ∧ x4.toInt ≤ 63 := by omega
    obtain ⟨r, st', lf', ne', nr', g1, g2, g3⟩ := netFits_n N hlim tl st lf ne nr
    have er : r = 1 := by
      rcases g2 with z | z
      · exact z.1
      · exact absurd hF z.2
    subst er
    obtain ⟨l2, n2, s1, s2⟩ := start_g N rl rne rn
    have hlt : ¬ nI n ≤ x4 := fun z => by
      have := ple z
      rw [nI_toInt (by omega)] at this
      omega
    obtain ⟨knots', b, c, d, e, t1, t2, t3, k1, k2, k3⟩ := bo_39 N hlim a3 n 0 0 NN knots l2 0 n2 st' lf' ne' nr' (by omega) (by show n < 32768; omega) rfl (lc_0 n) (fun j hj => by omega) hF s2 g3
    refine ⟨knots', b, c, d, e, t1, t2, t3, ?_, k2, k3⟩
    rw [L_X6_bestOrder_3, if_neg hlt, cal_e g1]
    dsimp only
    rw [if_neg n10, cal_e s1, bnd_s]
    exact k1
  | succ m ih =>
    intro f x4 tl rl rne rn st lf ne nr h1 h2 hf
    obtain ⟨f, rfl⟩ := Nat.exists_eq_succ_of_ne_zero (show f ≠ 0 by omega)
    have hlim : -1 ≤ x4.toInt ∧ x4.toInt ≤ 63 := by omega
    obtain ⟨r, st', lf', ne', nr', g1, g2, g3⟩ := netFits_n N hlim tl st lf ne nr
    have er : r = 0 := by
      rcases g2 with z | z
      · exact absurd z.2 (hmin _ h1 (by omega))
      · exact z.1
    subst er
    have hlt : ¬ nI n ≤ x4 := fun z => by
      have := ple z
      rw [nI_toInt (by omega)] at this
      omega
    have k1 : (x4 + (1 : Int32)).toInt = x4.toInt + (1 : Int32).toInt := ti_add (by omega) (by omega)
    rw [L_X6_bestOrder_3, if_neg hlt, cal_e g1]
    dsimp only
    rw [if_pos rfl, bnd_s]
    exact ih f (x4 + 1) x4 rl rne rn st' lf' ne' nr' (by omega) (by omega) (by omega)
theorem bestOrder_n {n : Nat} {B : Nat → Nat} {near0 : Nat → Int32} (N : NetN n B near0) {W lb : Int32} (hW : -1 ≤ W.toInt ∧ W.toInt < (n : Int) ∨ W.toInt = -1) (hF : FitG n (arN near0 (nI n)) W.toInt 0) (hmin : ∀ L : Int, -1 ≤ L → L < W.toInt → ¬ FitG n (arN near0 (nI n)) L 0) (hlb : -1 ≤ lb.toInt ∧ lb.toInt ≤ W.toInt) (knots : Nat → Int32) (tl rl rne : Int32) (rn : Nat → Int32) (st : Nat → Int64) (lf ne : Nat → Int32) (nr : Nat → Nat → Int32) : ∃ knots' b c d e s1 s2 s3, f_X6_bestOrder lb 0 0 knots (nI n) near0 tl rl rne rn st lf ne nr = some (W, nI n, nI (2 ^ n - 1), knots', W, b, c, d, e, s1, s2, s3) ∧ LO n (arN near0 (nI n)) W.toInt knots' n ∧ rmN knots' n = 2 ^ n - 1 := by
  have hn := N.1
  unfold f_X6_bestOrder
  rw [bnd_s]
  exact bo_3 N hW hF hmin lb knots (W.toInt - lb.toInt).toNat NN lb tl rl rne rn st lf ne nr hlb.1 (by omega) (by show (W.toInt - lb.toInt).toNat < 32768; omega)
