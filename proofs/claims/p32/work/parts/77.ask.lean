theorem in14336 {k : Nat} (h : k < 14336) : okI (nI k) 14336 := nI_in (c := k) (N := 14336) h (by decide)
theorem nI_inj {a b : Nat} (ha : a < 16384) (hb : b < 16384) (h : nI a = nI b) : a = b := by
  have := congrArg Int32.toInt h
  rw [nI_toInt (by omega), nI_toInt (by omega)] at this
  omega
theorem m1_ne {x : Nat} (hx : x < 16384) : ¬(-1 : Int32) = nI x := by
  intro h
  have := congrArg Int32.toInt h
  rw [nI_toInt (by omega)] at this
  have l1 : (-1 : Int32).toInt = -1 := rfl
  omega
theorem l_119 {n b : Nat} {B Ms par : Nat → Nat} {near0 bag up : Nat → Int32} (A : AskN n b B Ms par near0 bag up) {a1 : Int32} {sg : Int} (hs : Sg a1 sg) (tq : Int32) (wt ed fa pf fo mn fx : Nat → Int32) {x : Nat} (hx : x < b) {st : Nat → Int32} {a : As} (h4 : ∀ k, a k < 4) (hst : ∀ k, k < n → (Ms x).testBit k = true → st k = nI (a k)) {lv : Va} {T : Nat → As → Va} (x4 : Int32) (c : Nat) (ac ab am : Int64) {tc tb tm : Nat → Int64} (hT : ∀ j, j < x → Cel sg (tc (1024 * j + cd (tbF (Dm b Ms par j)) n a)) (tb (1024 * j + cd (tbF (Dm b Ms par j)) n a)) (tm (1024 * j + cd (tbF (Dm b Ms par j)) n a)) (T j a)) {v0 : Va} {N β : Nat} (hN : N ≤ 4611686018427387904) (hβ : β ≤ 4611686018427387904) (hv0 : vB N β v0) (hC : Cel sg (tc (1024 * x + cd (tbF (Dm b Ms par x)) n a)) (tb (1024 * x + cd (tbF (Dm b Ms par x)) n a)) (tm (1024 * x + cd (tbF (Dm b Ms par x)) n a)) v0) (hG : vB N β (vMul lv (Pr x (fun j => if par j = x then T j a else va1)))) (kk : Int32 → Int32 → Int32 → Int32 → Int64 → Int64 → Int64 → (Nat → Int32) → (Nat → Int64) → (Nat → Int64) → (Nat → Int64) → Option (Int64 × Int64 × Int64 × (Nat → Int32) × (Nat → Int64) × (Nat → Int64) × (Nat → Int64))) : ∀ (f j : Nat) (x6 x8 x10 : Int64), j ≤ x → x - j < f → Cel sg x6 x8 x10 (vMul lv (Pr j (fun j => if par j = x then T j a else va1))) → ∃ tc' tb' tm', L_X9_ask_119 a1 (nI n) (nI b) tq wt near0 ed bag up fa pf fo mn fx kk f (nI x) (nI (Dm b Ms par x)) x4 (nI c) x6 x8 x10 (nI j) ac ab am st tc tb tm = kk (nI x) (nI (Dm b Ms par x)) x4 (nI (c + 1)) ac ab am st tc' tb' tm' ∧ Cel sg (tc' (1024 * x + cd (tbF (Dm b Ms par x)) n a)) (tb' (1024 * x + cd (tbF (Dm b Ms par x)) n a)) (tm' (1024 * x + cd (tbF (Dm b Ms par x)) n a)) (vAdd v0 (vMul lv (Pr x (fun j => if par j = x then T j a else va1)))) ∧ ∀ i, i ≠ 1024 * x + cd (tbF (Dm b Ms par x)) n a → tc' i = tc i ∧ tb' i = tb i ∧ tm' i = tm i := by
  obtain ⟨N', hb0, hb, hM, hU⟩ := A
  have hn := N'.1
  have hp := p2n hn
  have dlt : ∀ i, i < b → Dm b Ms par i < 2 ^ n := fun i hi => by
    unfold Dm
    split
    · exact Nat.lt_of_le_of_lt Nat.and_le_left (hM i hi).2.1
    · exact Nat.two_pow_pos n
  have clt : ∀ i, i < b → cd (tbF (Dm b Ms par i)) n a < 1024 := fun i hi => by
    refine Nat.lt_of_lt_of_le (cd_lt n (fun k _ _ => h4 k)) ?_
    rw [cS_pc]
    have e1 : pcU n (Dm b Ms par i) ≤ pcU n (Ms i) := pcU_mono fun k _ hk => (Dm_sub hk).1
    have e2 : pcU n (Ms i) ≤ pcU 14 (Ms i) := pcU_k (Ms i) hn
    have e3 : pcU 14 (Ms i) ≤ 5 := (hM i hi).2.2
    exact Nat.pow_le_pow_right (n := 4) (j := 5) (by decide) (by omega)
  have stD : ∀ i, i < b → (∀ k, (Dm b Ms par i).testBit k = true → (Ms x).testBit k = true) → ∀ k, k < n → (Dm b Ms par i).testBit k = true → st k = nI (a k) := fun i _ hi k hk hd => hst k hk (hi k hd)
  intro f
  induction f with
  | zero => intro j x6 x8 x10 h1 h2; omega
  | succ f ih =>
    intro j x6 x8 x10 hj hf hC2
    rw [L_X9_ask_119]
    rcases Nat.lt_or_ge j x with c1 | c1
    · rw [if_neg (nI_ge c1 (by omega)), ld_ok _ (in14 (by omega)), cl14 (by omega)]
      have ep : vMul lv (Pr (j + 1) (fun j => if par j = x then T j a else va1)) = vMul (vMul lv (Pr j (fun j => if par j = x then T j a else va1))) (if par j = x then T j a else va1) := by rw [Pr, vmA]
      by_cases e : par j = x
      · have eu : up j = nI x := by
          rcases hU j (by omega) with ⟨q, _, _⟩ | ⟨_, q⟩
          · rw [q, e]
          · omega
        have eD : Ms j &&& Ms x = Dm b Ms par j := by unfold Dm; rw [if_pos (by omega), e]
        have l1 := clt j (by omega)
        rw [if_pos eu, ld_ok _ (in14 (by omega)), ld_ok _ (in14 (by omega)), cl14 (by omega), cl14 (by omega), (hM j (by omega)).1, (hM x hx).1, nx_and, eD, cal_e (code_n hn (dlt j (by omega)) (stD j (by omega) (fun k hk => by have := (Dm_sub hk).2.2; rw [e] at this; exact this))), nx_1024, bnd_s, ld_ok _ (in14336 (by omega)), bnd_s, ld_ok _ (in14336 (by omega)), bnd_s, ld_ok _ (in14336 (by omega)), bnd_s, bnd_s, nI_clamp (by omega), nI_1]
        refine ih (j + 1) _ _ _ (by omega) (by omega) ?_
        rw [ep, if_pos e]
        exact Cel_mul hC2 (hT j c1)
      · have eu : ¬up j = nI x := by
          rcases hU j (by omega) with ⟨q, q1, q2⟩ | ⟨q, _⟩
          · rw [q]; intro z
            exact e (nI_inj (by omega) (by omega) z)
          · rw [q]; exact m1_ne (by omega)
        rw [if_neg eu, bnd_s, nI_1]
        refine ih (j + 1) _ _ _ (by omega) (by omega) ?_
        rw [ep, if_neg e, vm1]
        exact hC2
    · have ej : j = x := by omega
      rw [if_pos (nI_le c1 (by omega))]
      rw [ej] at hC2
      by_cases z : vMul lv (Pr x (fun j => if par j = x then T j a else va1)) = none
      · refine ⟨tc, tb, tm, ?_, ?_, fun _ _ => ⟨rfl, rfl, rfl⟩⟩
        · rw [hC2.1 z, if_pos (by decide), bnd_s, nI_1]
        · rw [z, show vAdd v0 none = v0 from va_0 v0]; exact hC
      · have l2 := clt x hx
        obtain ⟨⟨C', B', M'⟩, hg⟩ := Option.ne_none_iff_exists'.mp z
        obtain ⟨g1, g2, g3, g4, g5⟩ := hG _ _ _ hg
        obtain ⟨y1, y2, y3⟩ := hC2.2 _ _ _ hg
        have q6 : ¬lg_cmp x6 0 ≤ 0 := by
          rw [y1, l_0]
          intro w
          have := (lg_le (by omega) (by decide)).mp w
          omega
        have ok : okI (nI (1024 * x + cd (tbF (Dm b Ms par x)) n a)) 14336 := in14336 (by omega)
        have cl : (nI (1024 * x + cd (tbF (Dm b Ms par x)) n a)).toNatClampNeg = 1024 * x + cd (tbF (Dm b Ms par x)) n a := nI_clamp (by omega)
        obtain ⟨tc', tb', tm', p1, p2, p3⟩ := put_n hs ok hN hβ hv0 hG z (by rw [cl]; exact hC) hC2
        rw [cl] at p2 p3
        refine ⟨tc', tb', tm', ?_, p2, p3⟩
        rw [if_neg q6, cal_e (code_n hn (dlt x hx) (stD x hx (fun k hk => (Dm_sub hk).1))), nx_1024, cal_e p1, bnd_s, nI_1]
/-- the tables of the bags before x stand -/
def TabO (n b : Nat) (Ms par : Nat → Nat) (sg : Int) (T : Nat → As → Va) (x : Nat) (tc tb tm : Nat → Int64) : Prop := ∀ j, j < x → ∀ a : As, (∀ k, a k < 4) → Cel sg (tc (1024 * j + cd (tbF (Dm b Ms par j)) n a)) (tb (1024 * j + cd (tbF (Dm b Ms par j)) n a)) (tm (1024 * j + cd (tbF (Dm b Ms par j)) n a)) (T j a)
/-- of bag x the codes before c are told -/
def TabC (n b : Nat) (Ms par : Nat → Nat) (sg : Int) (G : As → Va) (x c : Nat) (tc tb tm : Nat → Int64) : Prop := ∀ e, e < 1024 → Cel sg (tc (1024 * x + e)) (tb (1024 * x + e)) (tm (1024 * x + e)) (SN c (fun c => if cd (tbF (Dm b Ms par x)) n (dc (tbF (Ms x)) n c (fun _ => 0)) = e then G (dc (tbF (Ms x)) n c (fun _ => 0)) else va0))
theorem cd1024 {n b : Nat} {B Ms par : Nat → Nat} {near0 bag up : Nat → Int32} (A : AskN n b B Ms par near0 bag up) {i : Nat} (hi : i < b) {a : As} (h4 : ∀ k, a k < 4) : cd (tbF (Dm b Ms par i)) n a < 1024 := by
  obtain ⟨N', hb0, hb, hM, hU⟩ := A
  refine Nat.lt_of_lt_of_le (cd_lt n (fun k _ _ => h4 k)) ?_
  rw [cS_pc]
  have e1 : pcU n (Dm b Ms par i) ≤ pcU n (Ms i) := pcU_mono fun k _ hk => (Dm_sub hk).1
  have e2 : pcU n (Ms i) ≤ pcU 14 (Ms i) := pcU_k (Ms i) N'.1
  have e3 : pcU 14 (Ms i) ≤ 5 := (hM i hi).2.2
  exact Nat.pow_le_pow_right (n := 4) (j := 5) (by decide) (by omega)
theorem nc1024 {n b : Nat} {B Ms par : Nat → Nat} {near0 bag up : Nat → Int32} (A : AskN n b B Ms par near0 bag up) {i : Nat} (hi : i < b) : 4 ^ cS (tbF (Ms i)) n ≤ 1024 := by
  obtain ⟨N', hb0, hb, hM, hU⟩ := A
  rw [cS_pc]
  have e2 : pcU n (Ms i) ≤ pcU 14 (Ms i) := pcU_k (Ms i) N'.1
  have e3 : pcU 14 (Ms i) ≤ 5 := (hM i hi).2.2
  exact Nat.pow_le_pow_right (n := 4) (j := 5) (by decide) (by omega)
theorem l_83 {n b : Nat} {B Ms par : Nat → Nat} {near0 bag up : Nat → Int32} (A : AskN n b B Ms par near0 bag up) {a1 : Int32} {sg : Int} (hs : Sg a1 sg) (tq : Int32) (wt ed fa pf fo mn fx : Nat → Int32) {op : Nat → Nat → Bool} (hop : MayB n tq fo fx op) {x : Nat} (hx : x < b) {T : Nat → As → Va} {G : As → Va} (hGe : ∀ a, G a = vMul (lcM n B Ms op (barF mn) wt ed fa pf sg x a) (Pr x (fun j => if par j = x then T j a else va1))) {w β : Nat} (hw : 1024 * w ≤ 4611686018427387904) (hβ : β ≤ 4611686018427387904) (hG : ∀ a, vB w β (G a)) (ac ab am : Int64) (kk : Int32 → Int64 → Int64 → Int64 → (Nat → Int32) → (Nat → Int64) → (Nat → Int64) → (Nat → Int64) → Option (Int64 × Int64 × Int64 × (Nat → Int32) × (Nat → Int64) × (Nat → Int64) × (Nat → Int64))) : ∀ (f c : Nat) (st : Nat → Int32) (tc tb tm : Nat → Int64), c ≤ 4 ^ cS (tbF (Ms x)) n → 4 ^ cS (tbF (Ms x)) n - c < f → TabO n b Ms par sg T x tc tb tm → TabC n b Ms par sg G x c tc tb tm → (∀ i, 1024 * (x + 1) ≤ i → i < 14336 → tc i = 0) → ∃ st' tc' tb' tm', L_X9_ask_83 a1 (nI n) (nI b) tq wt near0 ed bag up fa pf fo mn fx kk f (nI x) (nI (Dm b Ms par x)) (nI (4 ^ cS (tbF (Ms x)) n)) (nI c) ac ab am st tc tb tm = kk (nI (x + 1)) ac ab am st' tc' tb' tm' ∧ TabO n b Ms par sg T x tc' tb' tm' ∧ TabC n b Ms par sg G x (4 ^ cS (tbF (Ms x)) n) tc' tb' tm' ∧ ∀ i, 1024 * (x + 1) ≤ i → i < 14336 → tc' i = 0 := by
  have hNC := nc1024 A hx
  have A' := A
  obtain ⟨N', hb0, hb, hM, hU⟩ := A
  have hn := N'.1
  have hp := p2n hn
  intro f
  induction f with
  | zero => intro c st tc tb tm h1 h2; omega
  | succ f ih =>
    intro c st tc tb tm hc hf hO hT hZ
    rw [L_X9_ask_83]
    rcases Nat.lt_or_ge c (4 ^ cS (tbF (Ms x)) n) with c1 | c1
    · obtain ⟨g, st', t1, t2, t3, t4⟩ := take_n9 N' tq fo mn fx hop (by omega) (hM x hx).1 (hM x hx).2.1 c (by omega) st
      have h4 : ∀ k, dc (tbF (Ms x)) n c (fun _ => 0) k < 4 := dc_4 n c _ (fun _ => by omega)
      have gG := hGe (dc (tbF (Ms x)) n c (fun _ => 0))
      rw [if_neg (nI_ge c1 (by omega)), cal_e t4]
      by_cases v : Vd n B op (barF mn) (Ms x) (dc (tbF (Ms x)) n c (fun _ => 0))
      · have g1 : g = 1 := t2.mpr v
        subst g1
        have lcv : lcM n B Ms op (barF mn) wt ed fa pf sg x (dc (tbF (Ms x)) n c (fun _ => 0)) = some (1, sg * ow n B Ms wt ed fa pf x (dc (tbF (Ms x)) n c (fun _ => 0)), 1) := vC_t v
        have c0 : Cel sg (1 : Int64) (Int64.ofInt (ow n B Ms wt ed fa pf x (dc (tbF (Ms x)) n c (fun _ => 0)))) (1 : Int64) (vMul (lcM n B Ms op (barF mn) wt ed fa pf sg x (dc (tbF (Ms x)) n c (fun _ => 0))) (Pr 0 (fun j => if par j = x then T j (dc (tbF (Ms x)) n c (fun _ => 0)) else va1))) := by
          rw [Pr, vm1, lcv]
          refine ⟨fun z => (nomatch z), fun C' B' M' z => ?_⟩
          cases z
          refine ⟨rfl, ?_, rfl⟩
          rcases hs with ⟨_, e⟩ | ⟨_, e⟩ <;> subst e <;> congr 1 <;> omega
        obtain ⟨tc', tb', tm', r1, r2, r3⟩ := l_119 A' hs tq wt ed fa pf fo mn fx hx h4 t3 (lv := lcM n B Ms op (barF mn) wt ed fa pf sg x (dc (tbF (Ms x)) n c (fun _ => 0))) (T := T) (nI (4 ^ cS (tbF (Ms x)) n)) c ac ab am (fun j hj => hO j hj _ h4) (v0 := SN c (fun c' => if cd (tbF (Dm b Ms par x)) n (dc (tbF (Ms x)) n c' (fun _ => 0)) = cd (tbF (Dm b Ms par x)) n (dc (tbF (Ms x)) n c (fun _ => 0)) then G (dc (tbF (Ms x)) n c' (fun _ => 0)) else va0)) (N := 1024 * w) (β := β) hw hβ (by
            refine vB_le (vB_SN c (w := w) (β := β) fun i _ => ?_) (Nat.mul_le_mul_right w (by omega)) (Nat.le_refl _)
            split
            · exact hG _
            · exact vB_0 _ _) (hT _ (cd1024 A' hx h4)) (by rw [← gG]; exact vB_le (hG _) (by omega) (Nat.le_refl _)) (fun y0 y1 y2 y3 y4 y5 y6 y7 y8 y9 y10 => L_X9_ask_83 a1 (nI n) (nI b) tq wt near0 ed bag up fa pf fo mn fx kk f y0 y1 y2 y3 y4 y5 y6 y7 y8 y9 y10) NN 0 _ _ _ (Nat.zero_le _) (by show x - 0 < 32768; omega) c0
        rw [← gG] at r2
        have l2 := cd1024 A' hx h4
        have hO' : TabO n b Ms par sg T x tc' tb' tm' := by
          intro j hj a ha
          have l1 := cd1024 A' (show j < b by omega) ha
          obtain ⟨u1, u2, u3⟩ := r3 (1024 * j + cd (tbF (Dm b Ms par j)) n a) (by omega)
          rw [u1, u2, u3]
          exact hO j hj a ha
        have hT' : TabC n b Ms par sg G x (c + 1) tc' tb' tm' := by
          intro e he
          by_cases q : cd (tbF (Dm b Ms par x)) n (dc (tbF (Ms x)) n c (fun _ => 0)) = e
          · subst q
            rw [SN, if_pos rfl]
            exact r2
          · obtain ⟨u1, u2, u3⟩ := r3 (1024 * x + e) (by omega)
            rw [u1, u2, u3, SN, if_neg q, va_0]
            exact hT e he
        have hZ' : ∀ i, 1024 * (x + 1) ≤ i → i < 14336 → tc' i = 0 := fun i h1 h2 => by
          rw [(r3 i (by omega)).1]; exact hZ i h1 h2
        obtain ⟨st2, tc2, tb2, tm2, s1, s2⟩ := ih (c + 1) st' tc' tb' tm' (by omega) (by omega) hO' hT' hZ'
        refine ⟨st2, tc2, tb2, tm2, ?_, s2⟩
        rw [if_neg (show ¬nI 1 = 0 by decide), bnd_s, cal_e (own_n N' wt ed fa pf (by omega) (fun i hi => ⟨(hM i (by omega)).1, Nat.lt_of_lt_of_le (hM i (by omega)).2.1 hp⟩) (fun k hk hm => ⟨t3 k hk hm, h4 k⟩)), bnd_s, bnd_s, bnd_s]
        exact r1.trans s1
      · have g0 : g = 0 := by
          rcases t1 with e | e
          · exact e
          · exact absurd (t2.mp e) v
        subst g0
        have eG : G (dc (tbF (Ms x)) n c (fun _ => 0)) = va0 := by
          rw [gG, show lcM n B Ms op (barF mn) wt ed fa pf sg x (dc (tbF (Ms x)) n c (fun _ => 0)) = va0 from vC_f v, v0m]
        have hT' : TabC n b Ms par sg G x (c + 1) tc tb tm := by
          intro e he
          rw [SN, eG, show (if cd (tbF (Dm b Ms par x)) n (dc (tbF (Ms x)) n c (fun _ => 0)) = e then va0 else va0) = va0 by split <;> rfl, va_0]
          exact hT e he
        obtain ⟨st2, tc2, tb2, tm2, s1, s2⟩ := ih (c + 1) st' tc tb tm (by omega) (by omega) hO hT' hZ
        refine ⟨st2, tc2, tb2, tm2, ?_, s2⟩
        rw [if_pos (show nI 0 = 0 from rfl), bnd_s, nI_1]
        exact s1
    · rw [if_pos (nI_le c1 (by omega)), bnd_s, nI_1]
      have ec : c = 4 ^ cS (tbF (Ms x)) n := by omega
      rw [ec] at hT
      exact ⟨st, tc, tb, tm, rfl, hO, hT, hZ⟩
theorem l_24 {n b : Nat} {B Ms par : Nat → Nat} {near0 bag up : Nat → Int32} (A : AskN n b B Ms par near0 bag up) {a1 : Int32} {sg : Int} (hs : Sg a1 sg) (tq : Int32) (wt ed fa pf fo mn fx : Nat → Int32) {op : Nat → Nat → Bool} (hop : MayB n tq fo fx op) {w β : Nat} (hw : 1024 * w ≤ 4611686018427387904) (hβ : β ≤ 4611686018427387904) (hG : ∀ x, x < b → ∀ a, vB w β (vMul (lcM n B Ms op (barF mn) wt ed fa pf sg x a) (Pr x (fun j => if par j = x then Tt n (Ss b Ms par) (lcM n B Ms op (barF mn) wt ed fa pf sg) par j a else va1)))) : ∀ (f x : Nat) (ac ab am : Int64) (st : Nat → Int32) (tc tb tm : Nat → Int64), x ≤ b → b - x < f → TabO n b Ms par sg (Tt n (Ss b Ms par) (lcM n B Ms op (barF mn) wt ed fa pf sg) par) x tc tb tm → (∀ i, 1024 * x ≤ i → i < 14336 → tc i = 0) → ∃ c' b' m' r, L_X9_ask_24 a1 (nI n) (nI b) tq wt near0 ed bag up fa pf fo mn fx f (nI x) ac ab am st tc tb tm = some (c', b', m', r) ∧ ∀ a : As, (∀ k, a k < 4) → par (b - 1) = b → Cel sg c' b' m' (Tt n (Ss b Ms par) (lcM n B Ms op (barF mn) wt ed fa pf sg) par (b - 1) a) := by
  have A' := A
  obtain ⟨N', hb0, hb, hM, hU⟩ := A
  have hn := N'.1
  have hp := p2n hn
  intro f
  induction f with
  | zero => intro x ac ab am st tc tb tm h1 h2; omega
  | succ f ih =>
    intro x ac ab am st tc tb tm hx hf hO hZ
    rw [L_X9_ask_24]
    rcases Nat.lt_or_ge x b with c1 | c1
    · have hC : TabC n b Ms par sg (fun a => vMul (lcM n B Ms op (barF mn) wt ed fa pf sg x a) (Pr x (fun j => if par j = x then Tt n (Ss b Ms par) (lcM n B Ms op (barF mn) wt ed fa pf sg) par j a else va1))) x 0 tc tb tm := by
        intro e he
        rw [hZ (1024 * x + e) (by omega) (by omega)]
        exact Cel_0 _ _ _
      obtain ⟨st', tc', tb', tm', s1, s2, s3, s4⟩ := l_83 A' hs tq wt ed fa pf fo mn fx hop c1 (fun _ => rfl) hw hβ (hG x c1) ac ab am (fun y0 y1 y2 y3 y4 y5 y6 y7 => L_X9_ask_24 a1 (nI n) (nI b) tq wt near0 ed bag up fa pf fo mn fx f y0 y1 y2 y3 y4 y5 y6 y7) NN 0 st tc tb tm (Nat.zero_le _) (by have := nc1024 A' c1; show _ < 32768; omega) hO hC (fun i h1 h2 => hZ i (by omega) h2)
      have hO' : TabO n b Ms par sg (Tt n (Ss b Ms par) (lcM n B Ms op (barF mn) wt ed fa pf sg) par) (x + 1) tc' tb' tm' := by
        intro j hj a ha
        rcases Nat.lt_or_ge j x with q | q
        · exact s2 j q a ha
        · have ej : j = x := by omega
          subst ej
          have := s3 (cd (tbF (Dm b Ms par j)) n a) (cd1024 A' c1 ha)
          have eS := SN_T (n := n) (M := tbF (Ms j)) (D := tbF (Dm b Ms par j)) (E := Ss b Ms par j) (G := fun a => vMul (lcM n B Ms op (barF mn) wt ed fa pf sg j a) (Pr j (fun i => if par i = j then Tt n (Ss b Ms par) (lcM n B Ms op (barF mn) wt ed fa pf sg) par i a else va1))) (fun k _ => Ss_D) (fun k _ => Ss_n) (ch_dp c1 (lcM_dp j) (fun i hi => Tt_dp (fun i _ => lcM_dp i) i (by omega))) (a := a) (fun i _ _ => ha i) (fun _ => 0)
          rw [eS, ← Tt_e] at this
          exact this
      obtain ⟨c', b', m', r, r1, r2⟩ := ih (x + 1) ac ab am st' tc' tb' tm' (by omega) (by omega) hO' s4
      refine ⟨c', b', m', r, ?_, r2⟩
      have e63 : J_X9_ask_63 a1 (nI n) (nI b) tq wt near0 ed bag up fa pf fo mn fx (fun y0 y1 y2 y3 y4 y5 y6 y7 => L_X9_ask_24 a1 (nI n) (nI b) tq wt near0 ed bag up fa pf fo mn fx f y0 y1 y2 y3 y4 y5 y6 y7) (nI x) (nI (Dm b Ms par x)) ac ab am st tc tb tm = some (c', b', m', r) := by
        unfold J_X9_ask_63
        have epc : pcN (Ms x) = cS (tbF (Ms x)) n := by
          rw [cS_pc]
          refine pcU_top hn fun i hi => ?_
          exact bf fun z => by have := tb_n (hM x c1).2.1 z; omega
        have ec : (1 : Int32) <<< (((2 : Int32) * nI (pcN (Ms x))) &&& 31) = nI (4 ^ cS (tbF (Ms x)) n) := by
          have := (hM x c1).2.2
          rw [show (2 : Int32) = nI 2 from rfl, nx_mul, nx_bit1 _ (by omega), Nat.pow_mul, epc]
        rw [bnd_s, ld_ok _ (in14 (by omega)), cl14 (by omega), (hM x c1).1, cal_e (bits_n (Nat.lt_of_lt_of_le (hM x c1).2.1 hp)), ec, bnd_s, bnd_s]
        exact s1.trans r1
      rw [if_neg (nI_ge c1 (by omega)), ld_ok _ (in14 (by omega)), cl14 (by omega)]
      rcases hU x c1 with ⟨u1, u2, u3⟩ | ⟨u1, u2⟩
      · have p0 : (0 : Int32) ≤ nI (par x) := by
          rw [Int32.le_iff_toInt_le, nI_toInt (by omega)]
          have l0 : (0 : Int32).toInt = 0 := rfl
          omega
        have eD : Ms x &&& Ms (par x) = Dm b Ms par x := by unfold Dm; rw [if_pos u3]
        rw [u1, if_pos p0, ld_ok _ (in14 (by omega)), ld_ok _ (in14 (by omega))]
        rw [cl14 (by omega), (hM x c1).1, u1, ld_ok _ (in14 (by omega)), cl14 (by omega), (hM (par x) u3).1, nx_and, eD]
        exact e63
      · have eD : Dm b Ms par x = 0 := by unfold Dm; rw [if_neg (by omega)]
        rw [u1, if_neg (by decide)]
        rw [eD] at e63
        exact e63
    · have ex : x = b := by omega
      have e1 : (1024 : Int32) * (nI b - (1 : Int32)) = nI (1024 * (b - 1)) := by
        rw [show nI b - (1 : Int32) = nI (b - 1) by
          rw [show nI b = nI (b - 1 + 1) by rw [show b - 1 + 1 = b by omega], ← nI_add, show (1 : Int32) = nI 1 from rfl, Int32.add_sub_cancel], show (1024 : Int32) = nI 1024 from rfl, nx_mul]
      rw [if_pos (nI_le c1 (by omega)), e1, bnd_s, ld_ok _ (in14336 (by omega)), bnd_s, ld_ok _ (in14336 (by omega)), bnd_s, ld_ok _ (in14336 (by omega)), bnd_s]
      refine ⟨_, _, _, _, rfl, fun a ha hr => ?_⟩
      rw [nI_clamp (by omega)]
      have := hO (b - 1) (by omega) a ha
      have eD : Dm b Ms par (b - 1) = 0 := by unfold Dm; rw [if_neg (by omega)]
      have ec : cd (tbF 0) n a = 0 := by
        have q : ∀ k, cd (tbF 0) k a = 0 := by
          intro k
          induction k with
          | zero => rfl
          | succ k ihk => rw [cd, if_neg (show ¬(0 : Nat).testBit k = true by rw [Nat.zero_testBit]; decide), ihk]
        exact q n
      rw [eD, ec, Nat.add_zero] at this
      exact this
theorem l_2 {n b : Nat} {near0 bag up : Nat → Int32} {a1 : Int32} (tq : Int32) (wt ed fa pf fo mn fx : Nat → Int32) (ac ab am : Int64) (st : Nat → Int32) (tb tm : Nat → Int64) : ∀ (f i : Nat) (tc : Nat → Int64), i ≤ 14336 → 14336 - i < f → (∀ j, j < i → tc j = 0) → ∃ tc', L_X9_ask_2 a1 (nI n) (nI b) tq wt near0 ed bag up fa pf fo mn fx f (nI i) ac ab am st tc tb tm = L_X9_ask_24 a1 (nI n) (nI b) tq wt near0 ed bag up fa pf fo mn fx NN 0 ac ab am st tc' tb tm ∧ ∀ j, j < 14336 → tc' j = 0 := by
  intro f
  induction f with
  | zero => intro i tc h1 h2; omega
  | succ f ih =>
    intro i tc hi hf h
    rw [L_X9_ask_2]
    rcases Nat.lt_or_ge i 14336 with c | c
    · rw [if_neg (show ¬(14336 : Int32) ≤ nI i from nI_ge (b := 14336) c (by decide))]
      have sj : ∀ {β : Type} (k : (Nat → Int64) → Option β), stJ tc 14336 (nI i) 0 k = k (vp_updL tc i 0) := fun k => by
        unfold stJ
        rw [if_pos (in14336 c), nI_clamp (by omega)]
      rw [sj, bnd_s, nI_1]
      refine ih (i + 1) _ (by omega) (by omega) fun j hj => ?_
      by_cases e : j = i
      · exact if_pos e
      · rw [show vp_updL tc i 0 j = tc j from if_neg e]; exact h j (by omega)
    · refine ⟨tc, ?_, fun j hj => h j (by omega)⟩
      rw [if_pos (show (14336 : Int32) ≤ nI i from nI_le (a := 14336) c (by omega)), bnd_s]
/-- the tree is sound: where a knot ends no later bag has it; each knot ends; edges are inside -/
def Snd (n b : Nat) (B Ms par : Nat → Nat) : Prop := (∀ i j k, i < j → j < b → Ss b Ms par i k = true → (Ms j).testBit k = false) ∧ (∀ k, k < n → ∃ i, i < b ∧ Ss b Ms par i k = true) ∧ ∀ k j, k < n → j < n → (B k).testBit j = true → ∃ i, i < b ∧ (Ms i).testBit k = true ∧ (Ms i).testBit j = true
/-- bounds of the law's numbers -/
def LwB (wt ed fa pf : Nat → Int32) : Prop := (∀ i, (wt i).toInt.natAbs ≤ 1000) ∧ (∀ i, (ed i).toInt.natAbs ≤ 1000) ∧ (∀ i, (fa i).toInt.natAbs ≤ 10) ∧ ∀ i, (pf i).toInt.natAbs ≤ 10
theorem mul_abs {x y : Int} {a b : Nat} (hx : x.natAbs ≤ a) (hy : y.natAbs ≤ b) : (x * y).natAbs ≤ a * b := by
  rw [Int.natAbs_mul]
  exact Nat.mul_le_mul hx hy
theorem ow_abs {n : Nat} (hn : n ≤ 14) {B Ms : Nat → Nat} {wt ed fa pf : Nat → Int32} (L : LwB wt ed fa pf) (x : Nat) (a : As) : (ow n B Ms wt ed fa pf x a).natAbs ≤ 2100000 := by
  have : (ow n B Ms wt ed fa pf x a).natAbs ≤ n * 150000 := by
    refine si_abs n fun k hk => ?_
    have e1 : (owK Ms wt fa x a k).natAbs ≤ 10000 := by
      unfold owK
      split
      · exact mul_abs (L.1 k) (L.2.2.1 _)
      · exact Nat.zero_le _
    have e2 : (si k (owE B Ms ed pf x a k)).natAbs ≤ k * 10000 := by
      refine si_abs k fun j hj => ?_
      unfold owE
      split
      · exact mul_abs (L.2.1 _) (L.2.2.2 _)
      · exact Nat.zero_le _
    omega
  omega
theorem ask_n {n b : Nat} {B Ms par : Nat → Nat} {near0 bag up : Nat → Int32} (A : AskN n b B Ms par near0 bag up) (hr : ∀ i, i < b → (par i = b ↔ i + 1 = b)) (hS : Snd n b B Ms par) {a1 : Int32} {sg : Int} (hs : Sg a1 sg) (tq : Int32) {wt ed fa pf : Nat → Int32} (L : LwB wt ed fa pf) (fo mn fx : Nat → Int32) {op : Nat → Nat → Bool} (hop : MayB n tq fo fx op) (ac ab am : Int64) (st : Nat → Int32) (tc tb tm : Nat → Int64) : ∃ c' b' m' r, f_X9_ask a1 (nI n) (nI b) tq ac ab am wt near0 ed bag up fa pf fo mn fx st tc tb tm = some (c', b', m', r) ∧ Cel sg c' b' m' (Sm (fun _ => true) n (fun a => Pr b (fun i => lcM n B Ms op (barF mn) wt ed fa pf sg i a)) (fun _ => 0)) ∧ vB (4 ^ 14) 29400000 (Sm (fun _ => true) n (fun a => Pr b (fun i => lcM n B Ms op (barF mn) wt ed fa pf sg i a)) (fun _ => 0)) := by
  have A' := A
  obtain ⟨N', hb0, hb, hM, hU⟩ := A
  obtain ⟨S1, S2, S3⟩ := hS
  have hn := N'.1
  have hpar : ∀ i, i < b → i < par i := fun i hi => by
    rcases hU i hi with ⟨_, h, _⟩ | ⟨_, h⟩ <;> omega
  have hdis : ∀ i j k, i < j → j < b → k < n → ¬(Ss b Ms par i k = true ∧ Ss b Ms par j k = true) := by
    rintro i j k hij hj hk ⟨h1, h2⟩
    have e1 := S1 i j k hij hj h1
    unfold Ss at h2
    rw [e1, Bool.false_and] at h2
    cases h2
  have hsg : ∀ z : Int, (sg * z).natAbs = z.natAbs := fun z => by
    rcases hs with ⟨_, e⟩ | ⟨_, e⟩ <;> subst e <;> omega
  have hlB : ∀ i, i < b → ∀ a, vB 1 2100000 (lcM n B Ms op (barF mn) wt ed fa pf sg i a) := fun i _ a => vB_C _ (by rw [hsg]; exact ow_abs hn L i a)
  have hsum : ∀ x, x ≤ b → Sn x (fun i => cS (Ss b Ms par i) n) ≤ 14 := fun x hx => Nat.le_trans (Sn_k hx) (Nat.le_trans (Sn_cS n hdis) hn)
  have hbl : ∀ x, x ≤ b → Sn x (fun _ => 2100000) ≤ 29400000 := by
    intro x hx
    have : ∀ x, Sn x (fun _ => 2100000) = x * 2100000 := by
      intro x
      induction x with
      | zero => rfl
      | succ x ih => rw [Sn, ih, Nat.add_mul, Nat.one_mul]
    rw [this]; omega
  have hTB := Tt_B (n := n) (m := b) (S := Ss b Ms par) (loc := lcM n B Ms op (barF mn) wt ed fa pf sg) (e := fun i => cS (Ss b Ms par i) n) (bl := fun _ => 2100000) (par := par) (fun _ _ => rfl) hlB
  have hG : ∀ x, x < b → ∀ a, vB (4 ^ 14) 31500000 (vMul (lcM n B Ms op (barF mn) wt ed fa pf sg x a) (Pr x (fun j => if par j = x then Tt n (Ss b Ms par) (lcM n B Ms op (barF mn) wt ed fa pf sg) par j a else va1))) := by
    intro x hx a
    have c1 := Wt_ch (e := fun i => cS (Ss b Ms par i) n) (x := x) (k := x) (fun i hi => hpar i (by omega)) (Nat.le_refl _)
    have c2 := Wt_ch (e := fun _ => 2100000) (x := x) (k := x) (fun i hi => hpar i (by omega)) (Nat.le_refl _)
    have c3 := hsum x (by omega)
    have c4 := hbl x (by omega)
    refine vB_le (vB_mul (hlB x hx a) (ch_B (x := x) (a := a) (fun j hj => hTB j (by omega) a) (Nat.le_refl x))) ?_ (by omega)
    rw [Nat.one_mul]
    exact Nat.pow_le_pow_right (by decide) (by omega)
  obtain ⟨tc', t1, t2⟩ := l_2 (n := n) (b := b) (near0 := near0) (bag := bag) (up := up) (a1 := a1) tq wt ed fa pf fo mn fx ac ab am st tb tm NN 0 tc (Nat.zero_le _) (by show _ < 32768; omega) (fun j hj => by omega)
  obtain ⟨c', b', m', r, r1, r2⟩ := l_24 A' hs tq wt ed fa pf fo mn fx hop (w := 4 ^ 14) (β := 31500000) (by decide) (by decide) hG NN 0 ac ab am st tc' tb tm (Nat.zero_le _) (by show b - 0 < 32768; omega) (fun j hj => by omega) (fun i _ h2 => t2 i h2)
  have hE := elim n b (Ss b Ms par) (lcM n B Ms op (barF mn) wt ed fa pf sg) par (Tt n (Ss b Ms par) (lcM n B Ms op (barF mn) wt ed fa pf sg) par) hpar hdis (fun i j hij hj k hk hs b' s => Dp_u (lcM_dp j) (S1 i j k hij hj hs) b' s) (fun j i hji hi hp k hk hs b' s => Dp_u (Tt_dp (fun i _ => lcM_dp i) j (by omega)) (bf fun z => by
    obtain ⟨_, z2, z3⟩ := Dm_sub z
    have := S1 i (par j) k hp z2 hs
    rw [z3] at this; cases this) b' s) (fun i _ a => Tt_e i a) (fun _ => 0)
  have hE2 : Sm (fun _ => true) n (fun a => Pr b (fun i => lcM n B Ms op (barF mn) wt ed fa pf sg i a)) (fun _ => 0) = Tt n (Ss b Ms par) (lcM n B Ms op (barF mn) wt ed fa pf sg) par (b - 1) (fun _ => 0) := by
    rw [← Sm_S (S := fun k => (List.range b).any (fun i => Ss b Ms par i k)) n _ _ (fun k hk => ?_), hE]
    · have q : ∀ x, x < b → Pr x (fun j => if b ≤ par j then Tt n (Ss b Ms par) (lcM n B Ms op (barF mn) wt ed fa pf sg) par j (fun _ => 0) else va1) = va1 := by
        intro x hx
        rw [Pr_c (g := fun _ => va1) x fun i hi => if_neg (fun z => by
          have h1 := hr i (by omega)
          rcases hU i (by omega) with ⟨_, h2, h3⟩ | ⟨_, h2⟩
          · omega
          · have := h1.mp h2; omega), Pr_1]
      have eb : b = b - 1 + 1 := by omega
      have epb : par (b - 1) = b := (hr (b - 1) (by omega)).mpr (by omega)
      rw [show Pr b (fun j => if b ≤ par j then Tt n (Ss b Ms par) (lcM n B Ms op (barF mn) wt ed fa pf sg) par j (fun _ => 0) else va1) = Pr (b - 1 + 1) (fun j => if b ≤ par j then Tt n (Ss b Ms par) (lcM n B Ms op (barF mn) wt ed fa pf sg) par j (fun _ => 0) else va1) by rw [← eb], Pr, q (b - 1) (by omega), v1m, if_pos (by omega)]
    · show (List.range b).any (fun i => Ss b Ms par i k) = true
      rw [List.any_eq_true]
      obtain ⟨i, h1, h2⟩ := S2 k hk
      exact ⟨i, List.mem_range.mpr h1, h2⟩
  refine ⟨c', b', m', r, ?_, ?_, ?_⟩
  · unfold f_X9_ask
    rw [bnd_s]
    exact t1.trans r1
  · rw [hE2]
    exact r2 _ (fun _ => by omega) ((hr (b - 1) (by omega)).mpr (by omega))
  · rw [hE2]
    have c1 := Wt_tot (e := fun i => cS (Ss b Ms par i) n) (par := par) (x := b - 1) (fun i hi => hpar i (by omega))
    have c2 := Wt_tot (e := fun _ => 2100000) (par := par) (x := b - 1) (fun i hi => hpar i (by omega))
    have c3 := hsum (b - 1 + 1) (by omega)
    have c4 := hbl (b - 1 + 1) (by omega)
    refine vB_le (hTB (b - 1) (by omega) _) ?_ (by omega)
    exact Nat.pow_le_pow_right (by decide) (by omega)
