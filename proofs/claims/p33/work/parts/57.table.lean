/-! least: the reference's table. -/
def TOK (n : Nat) (ar : Nat → Nat → Nat) (T : Nat → Int32) (G : Nat) : Prop := -1 ≤ (T G).toInt ∧ ∀ L : Int, -1 ≤ L → ((T G).toInt ≤ L ↔ FitG n ar L G)
def TIn (n : Nat) (ar : Nat → Nat → Nat) (T : Nat → Int32) (G j : Nat) : Prop := -1 ≤ (T G).toInt ∧ ∀ L : Int, -1 ≤ L → ((T G).toInt ≤ L ↔ ((if G = 2 ^ n - 1 then (-1 : Int) else 100) ≤ L ∨ ∃ k, k < j ∧ Good n ar L G k))
theorem TOK_upd {n : Nat} {ar : Nat → Nat → Nat} {T : Nat → Int32} {x : Int32} {G G' : Nat} (h : TOK n ar T G') (hg : G' ≠ G) : TOK n ar (upd T G x) G' := by
  unfold TOK
  rw [pk_un hg]; exact h
theorem Fit_all {n : Nat} {ar : Nat → Nat → Nat} {L : Int} : FitG n ar L (2 ^ n - 1) := by
  have h : lc n (2 ^ n - 1) = 0 := by
    have := pcU_full (k := n) (n := n) (m := 2 ^ n - 1) (Nat.le_refl _) (fun i hi => by rw [tb_all]; exact decide_eq_true hi)
    unfold lc; omega
  unfold FitG
  rw [h]
  intro i hi
  rw [tb_all]; exact decide_eq_true hi
theorem Fit_iff {n : Nat} {B : Nat → Nat} {ar : Nat → Nat → Nat} (A : ArS n B ar) (hn : n ≤ 14) {G : Nat} (hG : G < 2 ^ n) (L : Int) (_ : -1 ≤ L) : FitG n ar L G ↔ ((if G = 2 ^ n - 1 then (-1 : Int) else 100) ≤ L ∨ ∃ k, k < n ∧ Good n ar L G k) := by
  constructor
  · intro F
    by_cases e : G = 2 ^ n - 1
    · rw [if_pos e]; left; omega
    · right
      have h0 : lc n G ≠ 0 := fun z => e (lc0 hn hG z)
      obtain ⟨i, i1, i2⟩ := lc_pos hn h0
      obtain ⟨v, v1, v2⟩ := FitG_ex i1 i2 F
      exact ⟨v, v1, v1, v2⟩
  · rintro (z | ⟨k, _, k1, k2, k3, k4⟩)
    · by_cases e : G = 2 ^ n - 1
      · rw [e]; exact Fit_all
      · rw [if_neg e] at z
        have : lc n G ≤ n := Nat.sub_le _ _
        exact FitG_few A hn hG (by omega)
    · exact FitG_step k1 k2 k3 k4
theorem TOK_of {n : Nat} {B : Nat → Nat} {ar : Nat → Nat → Nat} (A : ArS n B ar) (hn : n ≤ 14) {T : Nat → Int32} {G : Nat} (hG : G < 2 ^ n) (h : TIn n ar T G n) : TOK n ar T G := ⟨h.1, fun L hL => (h.2 L hL).trans (Fit_iff A hn hG L hL).symm⟩
theorem in16k {k : Nat} (h : k < 16384) : okI (nI k) 16384 := nI_in (c := k) (N := 16384) h (by decide)
theorem j86_n {n : Nat} {near0 : Nat → Int32} {G k : Nat} (hG : G < 16384) (s0 rowed : Int32) (row T : Nat → Int32) (kk : Int32 → Int32 → Int32 → (Nat → Int32) → (Nat → Int32) → Option (Int32 × Int32 × (Nat → Int32) × (Nat → Int32))) : J_X9_least_86 (nI n) near0 kk (nI G) (nI k) s0 rowed row T = kk (nI G) (nI (k + 1)) rowed row (upd T G (if T G ≤ s0 then T G else s0)) := by
  unfold J_X9_least_86
  rw [bnd_s, ld_ok _ (in16k hG), nI_clamp (by omega)]
  by_cases c : T G ≤ s0
  · rw [if_pos c, if_pos c, ld_ok _ (in16k hG), sI_ok _ (in16k hG), bnd_s, nI_1, nI_clamp (by omega)]
  · rw [if_neg c, if_neg c, sI_ok _ (in16k hG), bnd_s, nI_1, nI_clamp (by omega)]
theorem or_le2 {n G k : Nat} (hG : G < 2 ^ n) (hk : k < n) : G ||| 2 ^ k < 2 ^ n := lt2n hG hk
theorem l_t31 {n : Nat} {B : Nat → Nat} {near0 : Nat → Int32} (N : NetN n B near0) {G : Nat} (hG : G < 2 ^ n) (rowed : Int32) (row : Nat → Int32) (kk : Int32 → Int32 → (Nat → Int32) → (Nat → Int32) → Option (Int32 × Int32 × (Nat → Int32) × (Nat → Int32))) : ∀ (f j : Nat) (T : Nat → Int32), j ≤ n → n - j < f → (∀ G', G < G' → G' < 2 ^ n → TOK n (arN near0 (nI n)) T G') → TIn n (arN near0 (nI n)) T G j → ∃ T', L_X9_least_31 (nI n) near0 kk f (nI G) (nI j) rowed row T = kk (nI G + (-1)) rowed row T' ∧ (∀ G', G < G' → G' < 2 ^ n → TOK n (arN near0 (nI n)) T' G') ∧ TIn n (arN near0 (nI n)) T' G n := by
  have hn := N.1
  have hp := p2n hn
  intro f
  induction f with
  | zero => intro j T h1 h2; omega
  | succ f ih =>
    intro j T hj hf hT hI
    rw [L_X9_least_31]
    rcases Nat.lt_or_ge j n with h | h
    · rw [if_neg (nI_ge h (by omega))]
      by_cases b : G.testBit j = true
      · rw [if_pos ((nx_has1 (by omega) (by omega)).mpr b), bnd_s, nI_1]
        refine ih (j + 1) T (by omega) (by omega) hT ⟨hI.1, fun L hL => (hI.2 L hL).trans ⟨fun z => ?_, fun z => ?_⟩⟩
        · rcases z with z | ⟨k, k1, k2⟩
          · exact Or.inl z
          · exact Or.inr ⟨k, by omega, k2⟩
        · rcases z with z | ⟨k, k1, k2⟩
          · exact Or.inl z
          · by_cases e : k = j
            · subst e
              have := k2.2.1
              rw [b] at this; cases this
            · exact Or.inr ⟨k, by omega, k2⟩
      · have bfj := bf b
        obtain ⟨a1, a2, _⟩ := arN_ar N hG h
        have hc := pcN_le (arN near0 (nI n) G j)
        have hor := lt2n hG h
        have hgt := or_gt bfj
        rw [if_neg (fun z => b ((nx_has1 (by omega) (by omega)).mp z)), cal_e a2, cal_e (bits_n a1), bnd_s, nx_bit1 j (by omega), nx_or, ld_ok _ (in16k (by omega)), nI_clamp (by omega), bnd_s]
        have hTo := hT (G ||| 2 ^ j) hgt hor
        have hcI : (nI (pcN (arN near0 (nI n) G j))).toInt = (pcN (arN near0 (nI n) G j) : Int) := nI_toInt (by omega)
        have fin : ∀ s0 : Int32, s0.toInt = (if (T (G ||| 2 ^ j)).toInt ≤ (pcN (arN near0 (nI n) G j) : Int) then (pcN (arN near0 (nI n) G j) : Int) else (T (G ||| 2 ^ j)).toInt) → ∃ T', L_X9_least_31 (nI n) near0 kk f (nI G) (nI (j + 1)) rowed row (upd T G (if T G ≤ s0 then T G else s0)) = kk (nI G + (-1)) rowed row T' ∧ (∀ G', G < G' → G' < 2 ^ n → TOK n (arN near0 (nI n)) T' G') ∧ TIn n (arN near0 (nI n)) T' G n := by
          intro s0 hs
          have hmin : (if T G ≤ s0 then T G else s0).toInt = (if (T G).toInt ≤ s0.toInt then (T G).toInt else s0.toInt) := by
            by_cases c : T G ≤ s0
            · rw [if_pos c, if_pos (ple c)]
            · have := nle c
              rw [if_neg c, if_neg (by omega)]
          refine ih (j + 1) _ (by omega) (by omega) (fun G' g1 g2 => TOK_upd (hT G' g1 g2) (by omega)) ⟨?_, fun L hL => ?_⟩
          · rw [pk_us, hmin]
            have q1 := hI.1
            have q2 := hTo.1
            have q5 : -1 ≤ s0.toInt := by
              rw [hs]
              split <;> omega
            split <;> omega
          · rw [pk_us, hmin]
            have q1 := hI.2 L hL
            have q2 := hTo.2 L hL
            have q3 : (if (T G).toInt ≤ s0.toInt then (T G).toInt else s0.toInt) ≤ L ↔ ((T G).toInt ≤ L ∨ s0.toInt ≤ L) := by
              split <;> omega
            have q4 : s0.toInt ≤ L ↔ ((pcN (arN near0 (nI n) G j) : Int) ≤ L ∧ (T (G ||| 2 ^ j)).toInt ≤ L) := by
              rw [hs]
              split <;> omega
            rw [q3, q1, q4, q2]
            constructor
            · rintro ((z | ⟨k, k1, k2⟩) | ⟨z1, z2⟩)
              · exact Or.inl z
              · exact Or.inr ⟨k, by omega, k2⟩
              · exact Or.inr ⟨j, by omega, h, bfj, z1, z2⟩
            · rintro (z | ⟨k, k1, k2⟩)
              · exact Or.inl (Or.inl z)
              · by_cases e : k = j
                · subst e; exact Or.inr ⟨k2.2.2.1, k2.2.2.2⟩
                · exact Or.inl (Or.inr ⟨k, by omega, k2⟩)
        by_cases c : T (G ||| 2 ^ j) ≤ nI (pcN (arN near0 (nI n) G j))
        · have c2 := ple c
          rw [if_pos c, j86_n (by omega)]
          exact fin _ (by rw [hcI, if_pos (by omega)])
        · have c2 := nle c
          rw [if_neg c, j86_n (by omega)]
          exact fin _ (by rw [if_neg (by omega)])
    · have e : j = n := by omega
      subst e
      rw [if_pos (nI_le (Nat.le_refl _) (by omega)), bnd_s]
      exact ⟨T, rfl, hT, hI⟩
theorem l_t5 {n : Nat} {B : Nat → Nat} {near0 : Nat → Int32} (N : NetN n B near0) (rowed : Int32) (row : Nat → Int32) : ∀ (m f : Nat) (x1 : Int32) (T : Nat → Int32), m ≤ 2 ^ n → m < f → ((m = 0 ∧ x1 = -1) ∨ (∃ G, m = G + 1 ∧ x1 = nI G)) → (∀ G', m ≤ G' → G' < 2 ^ n → TOK n (arN near0 (nI n)) T G') → ∃ T', L_X9_least_5 (nI n) near0 f x1 rowed row T = L_X9_least_139 (nI n) near0 NN (T' 0) 0 0 row T' ∧ ∀ G', G' < 2 ^ n → TOK n (arN near0 (nI n)) T' G' := by
  have hn := N.1
  have hp := p2n hn
  have A := arS_n N
  intro m
  induction m with
  | zero =>
    intro f x1 T h1 h2 hx hT
    obtain ⟨f, rfl⟩ := Nat.exists_eq_succ_of_ne_zero (show f ≠ 0 by omega)
    have ex : x1 = -1 := by
      rcases hx with z | ⟨G, z, _⟩
      · exact z.2
      · omega
    subst ex
    refine ⟨T, ?_, fun G' g => hT G' (Nat.zero_le _) g⟩
    rw [L_X9_least_5, if_pos (by decide), ld_ok _ (show okI (0 : Int32) 16384 from in16k (k := 0) (by decide)), bnd_s, bnd_s, bnd_s]
    rfl
  | succ m ih =>
    intro f x1 T h1 h2 hx hT
    obtain ⟨f, rfl⟩ := Nat.exists_eq_succ_of_ne_zero (show f ≠ 0 by omega)
    have ex : x1 = nI m := by
      rcases hx with z | ⟨G, z, e⟩
      · omega
      · rw [e, show G = m from by omega]
    subst ex
    have hq : 0 < 2 ^ n := Nat.two_pow_pos n
    have ea : f_X9_all (nI n) = some (nI (2 ^ n - 1)) := by unfold f_X9_all; rw [all_v hn]
    have hnext : (m = 0 ∧ nI m + (-1) = -1) ∨ (∃ G, m = G + 1 ∧ nI m + (-1) = nI G) := by
      rcases Nat.eq_zero_or_pos m with z | z
      · subst z; exact Or.inl ⟨rfl, by decide⟩
      · obtain ⟨G, rfl⟩ := Nat.exists_eq_succ_of_ne_zero (show m ≠ 0 by omega)
        exact Or.inr ⟨G, rfl, pk_m1 G⟩
    have go : ∀ T1 : Nat → Int32, (∀ G', m < G' → G' < 2 ^ n → TOK n (arN near0 (nI n)) T1 G') → TIn n (arN near0 (nI n)) T1 m 0 → ∃ T', L_X9_least_31 (nI n) near0 (fun y0 y1 y2 y3 => L_X9_least_5 (nI n) near0 f y0 y1 y2 y3) NN (nI m) (nI 0) rowed row T1 = L_X9_least_139 (nI n) near0 NN (T' 0) 0 0 row T' ∧ ∀ G', G' < 2 ^ n → TOK n (arN near0 (nI n)) T' G' := by
      intro T1 hT1 hI
      obtain ⟨T2, g1, g2, g3⟩ := l_t31 N (G := m) (by omega) rowed row (fun y0 y1 y2 y3 => L_X9_least_5 (nI n) near0 f y0 y1 y2 y3) NN 0 T1 (by omega) (by show n - 0 < 32768; omega) hT1 hI
      obtain ⟨T', k1, k2⟩ := ih f (nI m + (-1)) T2 (by omega) (by omega) hnext (fun G' a b => by
        by_cases e : G' = m
        · subst e; exact TOK_of A hn b g3
        · exact g2 G' (by omega) b)
      exact ⟨T', g1.trans k1, k2⟩
    rw [L_X9_least_5, if_neg (nI_pos (by omega)), cal_e ea]
    by_cases c : nI m = nI (2 ^ n - 1)
    · have c2 : m = 2 ^ n - 1 := (nI_eq (by omega) (by omega)).mp c
      rw [if_pos c, sI_ok _ (in16k (by omega)), bnd_s, nI_clamp (by omega)]
      refine go _ (fun G' a b => TOK_upd (hT G' (by omega) b) (by omega)) ⟨by rw [pk_us]; decide, fun L hL => ?_⟩
      rw [pk_us, if_pos c2]
      have l : (-1 : Int32).toInt = -1 := rfl
      exact ⟨fun z => Or.inl (by omega), fun _ => by omega⟩
    · have c2 : m ≠ 2 ^ n - 1 := fun z => c (by rw [z])
      rw [if_neg c, sI_ok _ (in16k (by omega)), bnd_s, nI_clamp (by omega)]
      refine go _ (fun G' a b => TOK_upd (hT G' (by omega) b) (by omega)) ⟨by rw [pk_us]; decide, fun L hL => ?_⟩
      rw [pk_us, if_neg c2]
      have l : (100 : Int32).toInt = 100 := rfl
      refine ⟨fun z => Or.inl (by omega), fun z => ?_⟩
      rcases z with z | ⟨k, k1, _⟩
      · omega
      · omega
theorem l_t152 {n : Nat} {B : Nat → Nat} {near0 : Nat → Int32} (N : NetN n B near0) {W : Int32} (hW : -1 ≤ W.toInt) {G r : Nat} (hG : G < 2 ^ n) (hr : r < 14) (row T : Nat → Int32) (hT : ∀ G', G' < 2 ^ n → TOK n (arN near0 (nI n)) T G') (kk : Int32 → Int32 → Int32 → (Nat → Int32) → (Nat → Int32) → Option (Int32 × Int32 × (Nat → Int32) × (Nat → Int32))) (hex : ∃ k, Good n (arN near0 (nI n)) W.toInt G k) : ∀ (f j : Nat), n - j < f → (∀ k, k < j → ¬ Good n (arN near0 (nI n)) W.toInt G k) → ∃ k, Best n (arN near0 (nI n)) W.toInt G k ∧ L_X9_least_152 (nI n) near0 kk f W (nI G) (nI j) (nI r) row T = kk W (nI (G ||| 2 ^ k)) (nI (r + 1)) (upd row r (nI k)) T := by
  have hn := N.1
  have hp := p2n hn
  intro f
  induction f with
  | zero => intro j h1; omega
  | succ f ih =>
    intro j hf hN
    have hj : j < n := by
      obtain ⟨k, hk⟩ := hex
      rcases Nat.lt_or_ge k j with z | z
      · exact absurd hk (hN k z)
      · have := hk.1; omega
    have nxt : ¬ Good n (arN near0 (nI n)) W.toInt G j → ∃ k, Best n (arN near0 (nI n)) W.toInt G k ∧ L_X9_least_152 (nI n) near0 kk f W (nI G) (nI (j + 1)) (nI r) row T = kk W (nI (G ||| 2 ^ k)) (nI (r + 1)) (upd row r (nI k)) T := fun hb => ih (j + 1) (by omega) (fun k hk => by
      by_cases e : k = j
      · subst e; exact hb
      · exact hN k (by omega))
    rw [L_X9_least_152]
    by_cases b : G.testBit j = true
    · rw [if_pos ((nx_has1 (by omega) (by omega)).mpr b), bnd_s, nI_1]
      exact nxt (fun w => by have := w.2.1; rw [b] at this; cases this)
    · obtain ⟨a1, a2, _⟩ := arN_ar N hG hj
      have hc := pcN_le (arN near0 (nI n) G j)
      have hor := lt2n hG hj
      have hTo := (hT _ hor).2 W.toInt hW
      rw [if_neg (fun z => b ((nx_has1 (by omega) (by omega)).mp z)), cal_e a2, cal_e (bits_n a1)]
      by_cases c : W < nI (pcN (arN near0 (nI n) G j))
      · have c2 := plt c
        rw [nI_toInt (by omega)] at c2
        rw [if_pos c, bnd_s, nI_1]
        exact nxt (fun w => by have := w.2.2.1; omega)
      · have c2 := nlt c
        rw [nI_toInt (by omega)] at c2
        rw [if_neg c, nx_bit1 j (by omega), nx_or, ld_ok _ (in16k (by omega)), nI_clamp (by omega)]
        by_cases d : T (G ||| 2 ^ j) ≤ W
        · rw [if_pos d, sI_ok _ (in14 hr), cl14 hr, bnd_s, bnd_s, nI_1]
          exact ⟨j, ⟨⟨hj, bf b, c2, hTo.mp (ple d)⟩, hN⟩, rfl⟩
        · have d2 := nle d
          rw [if_neg d, bnd_s, nI_1]
          exact nxt (fun w => by have := hTo.mpr w.2.2.2; omega)
theorem l_t139 {n : Nat} {B : Nat → Nat} {near0 : Nat → Int32} (N : NetN n B near0) {W : Int32} (hW : -1 ≤ W.toInt) (T : Nat → Int32) (hT : ∀ G', G' < 2 ^ n → TOK n (arN near0 (nI n)) T G') : ∀ (m i G f : Nat) (row : Nat → Int32), i + m = n → m < f → rmN row i = G → lc n G = m → G < 2 ^ n → LO n (arN near0 (nI n)) W.toInt row i → FitG n (arN near0 (nI n)) W.toInt G → ∃ row', L_X9_least_139 (nI n) near0 f W (nI G) (nI i) row T = some (W, nI n, row', T) ∧ LO n (arN near0 (nI n)) W.toInt row' n ∧ rmN row' n = 2 ^ n - 1 := by
  have hn := N.1
  intro m
  induction m with
  | zero =>
    intro i G f row hi hf hr hl hG hL hF
    obtain ⟨f, rfl⟩ := Nat.exists_eq_succ_of_ne_zero (show f ≠ 0 by omega)
    have e1 : i = n := by omega
    subst e1
    have eG := lc0 hn hG hl
    refine ⟨row, ?_, hL, by rw [hr, eG]⟩
    rw [L_X9_least_139, if_pos (nI_le (Nat.le_refl _) (by omega))]
  | succ m ih =>
    intro i G f row hi hf hr hl hG hL hF
    obtain ⟨f, rfl⟩ := Nat.exists_eq_succ_of_ne_zero (show f ≠ 0 by omega)
    obtain ⟨v, v1, v2⟩ := lc_pos hn (G := G) (by omega)
    obtain ⟨v', w1, w2, w3, w4⟩ := FitG_ex v1 v2 hF
    obtain ⟨k, k1, k2⟩ := l_t152 N hW hG (r := i) (by omega) row T hT (fun y0 y1 y2 y3 y4 => L_X9_least_139 (nI n) near0 f y0 y1 y2 y3 y4) ⟨v', w1, w2, w3, w4⟩ NN 0 (by show n - 0 < 32768; omega) (fun k hk => by omega)
    have hkn := k1.1.1
    have hlc := lc_step k1.1.1 k1.1.2.1
    obtain ⟨row', h1, h2, h3⟩ := ih (i + 1) (G ||| 2 ^ k) f (upd row i (nI k)) (by omega) (by omega) (by rw [rmN_app2 row i (by omega), hr]) (by omega) (lt2n hG hkn) (LO_app hL (by rw [hr]; exact k1)) k1.1.2.2.2
    rw [L_X9_least_139, if_neg (nI_ge (by omega) (by omega)), bnd_s]
    exact ⟨row', k2.trans h1, h2, h3⟩
theorem least_m {n : Nat} {B : Nat → Nat} {near0 : Nat → Int32} (N : NetN n B near0) (rowed : Int32) (row T : Nat → Int32) : ∃ W row' T', f_X9_least (nI n) rowed near0 row T = some (W, nI n, row', T') ∧ LO n (arN near0 (nI n)) W.toInt row' n ∧ rmN row' n = 2 ^ n - 1 ∧ (-1 ≤ W.toInt ∧ W.toInt < (n : Int) ∨ W.toInt = -1) ∧ FitG n (arN near0 (nI n)) W.toInt 0 ∧ (∀ L : Int, -1 ≤ L → L < W.toInt → ¬ FitG n (arN near0 (nI n)) L 0) := by
  have hn := N.1
  have hp := p2n hn
  have hq : 0 < 2 ^ n := Nat.two_pow_pos n
  have ea : f_X9_all (nI n) = some (nI (2 ^ n - 1)) := by unfold f_X9_all; rw [all_v hn]
  obtain ⟨T', t1, t2⟩ := l_t5 N rowed row (2 ^ n) NN (nI (2 ^ n - 1)) T (Nat.le_refl _) (by show 2 ^ n < 32768; omega) (Or.inr ⟨2 ^ n - 1, by omega, rfl⟩) (fun G' a b => by omega)
  have h0 := t2 0 hq
  have hF : FitG n (arN near0 (nI n)) (T' 0).toInt 0 := (h0.2 _ h0.1).mp (Int.le_refl _)
  obtain ⟨row', k1, k2, k3⟩ := l_t139 N h0.1 T' t2 n 0 0 NN row (by omega) (by show n < 32768; omega) rfl (lc_0 n) hq (fun j hj => by omega) hF
  refine ⟨T' 0, row', T', ?_, k2, k3, ?_, hF, fun L hL hlt F => ?_⟩
  · unfold f_X9_least
    rw [cal_e ea, bnd_s, t1]
    exact k1
  · have := (h0.2 ((n : Int) - 1) (by omega)).mpr (FitG_few (arS_n N) hn hq (by rw [lc_0]; omega))
    have := h0.1
    omega
  · have := (h0.2 L hL).mpr F
    omega
/-- least, on both sides -/
theorem least_rel {n : Nat} {B : Nat → Nat} {near0 : Nat → Int32} (N : NetN n B near0) (gl gn os oh sl rl rne rowed : Int32) (gnear knots rn row T : Nat → Int32) (st : Nat → Int64) (lf ne : Nat → Int32) (nr : Nat → Nat → Int32) : ∃ W knots' row' T' a1 a2 a3 b c d e s1 s2 s3, f_X8_least gl gn gnear os oh knots (nI n) near0 sl rl rne rn st lf ne nr = some (W, a1, a2, a3, nI n, nI (2 ^ n - 1), knots', W, b, c, d, e, s1, s2, s3) ∧ f_X9_least (nI n) rowed near0 row T = some (W, nI n, row', T') ∧ (∀ j, j < n → knots' j = row' j) ∧ RowN n row' n ∧ rmN row' n = 2 ^ n - 1 := by
  obtain ⟨W, row', T', m1, m2, m3, m4, m5, m6⟩ := least_m N rowed row T
  obtain ⟨lb, x, y, z, b1, b2, b3, b4, b5⟩ := below_rel N gl gn gnear
  have hW1 : -1 ≤ W.toInt := by omega
  obtain ⟨knots', b, c, d, e, s1, s2, s3, k1, k2, k3⟩ := bestOrder_n N m4 m5 m6 ⟨b3, b5 _ m5 hW1⟩ knots sl rl rne rn st lf ne nr
  refine ⟨W, knots', row', T', x, y, z, b, c, d, e, s1, s2, s3, ?_, m1, LO_uniq n k2 m2, LO_row m2, m3⟩
  unfold f_X8_least J_X8_least_18
  rw [cal_e (show f_X2_empty os oh = some (0, 0) from rfl), cal_e b1, cal_e k1]
