/-! Masks as numbers. -/
theorem nx_or (a b : Nat) : nI a ||| nI b = nI (a ||| b) := by
  apply Int32.toBitVec_inj.mp
  rw [Int32.toBitVec_or]
  show BitVec.ofNat 32 a ||| BitVec.ofNat 32 b = BitVec.ofNat 32 (a ||| b)
  apply BitVec.eq_of_getLsbD_eq
  intro i hi
  rw [BitVec.getLsbD_or, BitVec.getLsbD_ofNat, BitVec.getLsbD_ofNat, BitVec.getLsbD_ofNat, Nat.testBit_or]
  simp [hi]
theorem nx_m1 : (-1 : Int32) = nI 4294967295 := rfl
/-- a without b -/
def nd (a b : Nat) : Nat := a &&& (b ^^^ 4294967295)
theorem nx_nd (a b : Nat) : nI a &&& (nI b ^^^ -1) = nI (nd a b) := by
  rw [nx_m1, nx_xor, nx_and]; rfl
theorem tb_ff (i : Nat) : (4294967295 : Nat).testBit i = decide (i < 32) := Nat.testBit_two_pow_sub_one 32 i
theorem nd_bit {a : Nat} (b i : Nat) (ha : a < 2 ^ 32) : (nd a b).testBit i = (a.testBit i && !b.testBit i) := by
  unfold nd
  rw [Nat.testBit_and, Nat.testBit_xor, tb_ff]
  by_cases hi : i < 32
  · rw [decide_eq_true hi]; simp
  · rw [Nat.testBit_lt_two_pow (Nat.lt_of_lt_of_le ha (Nat.pow_le_pow_right (by decide) (by omega)))]; simp
theorem nd_le (a b : Nat) : nd a b ≤ a := Nat.and_le_left
theorem nx_bit1 : ∀ k, k < 31 → (1 : Int32) <<< (nI k &&& 31) = nI (2 ^ k) := by decide +kernel
theorem tb_dm (a k : Nat) : a.testBit k = decide (a / 2 ^ k % 2 = 1) := Nat.testBit_eq_decide_div_mod_eq
theorem nx_shr1 {a k : Nat} (ha : a < 2 ^ 31) (hk : k < 31) : (nI a >>> (nI k &&& 31)) &&& (1 : Int32) = nI (a / 2 ^ k % 2) := by
  rw [pk_shrN ha (nI k &&& 31) k (s_l k (by omega))]
  show nI (a / 2 ^ k) &&& nI 1 = _
  rw [nx_and, Nat.and_one_is_mod]
theorem nx_has1 {a k : Nat} (ha : a < 2 ^ 31) (hk : k < 31) : ((nI a >>> (nI k &&& 31)) &&& (1 : Int32)) = (1 : Int32) ↔ a.testBit k = true := by
  rw [nx_shr1 ha hk, tb_dm]
  have h2 : a / 2 ^ k % 2 < 2 := Nat.mod_lt _ (by decide)
  show nI (a / 2 ^ k % 2) = nI 1 ↔ _
  rw [nI_eq (by omega) (by decide)]
  simp
theorem nx_has0 {a k : Nat} (ha : a < 2 ^ 31) (hk : k < 31) : ((nI a >>> (nI k &&& 31)) &&& (1 : Int32)) = 0 ↔ a.testBit k = false := by
  rw [nx_shr1 ha hk, tb_dm]
  have h2 : a / 2 ^ k % 2 < 2 := Nat.mod_lt _ (by decide)
  show nI (a / 2 ^ k % 2) = nI 0 ↔ _
  rw [nI_eq (by omega) (by decide)]
  simp
theorem hasBit_n {a k : Nat} (ha : a < 2 ^ 31) (hk : k < 31) : f_X8_hasBit (nI a) (nI k) = some (if a.testBit k then 1 else 0) := by
  unfold f_X8_hasBit
  by_cases h : a.testBit k = true
  · rw [if_neg (fun e => by rw [nx_has0 ha hk, h] at e; cases e), if_pos h]
  · have h : a.testBit k = false := by simpa using h
    rw [if_pos ((nx_has0 ha hk).mpr h), h]; rfl
/-- bits below k -/
def pcU : Nat → Nat → Nat
  | 0, _ => 0
  | k + 1, m => pcU k m + (if m.testBit k then 1 else 0)
def pcN (m : Nat) : Nat := pcU 14 m
theorem pcU_le (k m : Nat) : pcU k m ≤ k := by
  induction k with
  | zero => exact Nat.le_refl _
  | succ k ih => unfold pcU; split <;> omega
theorem pcU_mono {k a b : Nat} (h : ∀ i, i < k → a.testBit i = true → b.testBit i = true) : pcU k a ≤ pcU k b := by
  induction k with
  | zero => exact Nat.le_refl _
  | succ k ih =>
    have h1 := ih (fun i hi => h i (by omega))
    unfold pcU
    by_cases ha : a.testBit k = true
    · rw [if_pos ha, if_pos (h k (by omega) ha)]; omega
    · rw [if_neg ha]; split <;> omega
theorem pcU_congr {k a b : Nat} (h : ∀ i, i < k → a.testBit i = b.testBit i) : pcU k a = pcU k b :=
  Nat.le_antisymm (pcU_mono fun i hi e => by rw [← h i hi]; exact e) (pcU_mono fun i hi e => by rw [h i hi]; exact e)
theorem pcU_k {j k : Nat} (m : Nat) (h : j ≤ k) : pcU j m ≤ pcU k m := by
  induction k with
  | zero => have : j = 0 := by omega
            rw [this]; exact Nat.le_refl _
  | succ k ih =>
    rcases Nat.lt_or_ge k j with h2 | h2
    · have : j = k + 1 := by omega
      rw [this]; exact Nat.le_refl _
    · have := ih h2
      show pcU j m ≤ pcU k m + _
      omega
theorem tb_or2 (m j i : Nat) : (m ||| 2 ^ j).testBit i = (m.testBit i || decide (j = i)) := by
  rw [Nat.testBit_or, Nat.testBit_two_pow]
theorem pcU_add {k m j : Nat} (hj : j < k) (h : m.testBit j = false) : pcU k (m ||| 2 ^ j) = pcU k m + 1 := by
  induction k with
  | zero => omega
  | succ k ih =>
    unfold pcU
    rw [tb_or2]
    by_cases e : j = k
    · subst e
      rw [h, pcU_congr (a := m ||| 2 ^ j) (b := m) (fun i hi => by rw [tb_or2, decide_eq_false (by omega), Bool.or_false])]
      simp
    · rw [ih (by omega), decide_eq_false e, Bool.or_false]
      omega
theorem pcU_full {k n m : Nat} (hn : n ≤ k) (h : ∀ i, i < n → m.testBit i = true) : n ≤ pcU k m := by
  have h1 : pcU n m = n := by
    clear hn
    induction n with
    | zero => rfl
    | succ n ih => unfold pcU; rw [ih (fun i hi => h i (by omega)), if_pos (h n (by omega))]
  have := pcU_k m hn
  omega
theorem pcU_0 (k : Nat) : pcU k 0 = 0 := by
  induction k with
  | zero => rfl
  | succ k ih => unfold pcU; rw [ih, Nat.zero_testBit]; rfl
theorem tb_succ (m i : Nat) : m.testBit (i + 1) = (m / 2).testBit i := Nat.testBit_succ m i
theorem pcU_half (k m : Nat) : pcU (k + 1) m = (if m.testBit 0 then 1 else 0) + pcU k (m / 2) := by
  induction k with
  | zero => exact Nat.zero_add _
  | succ k ih =>
    show pcU (k + 1) m + (if m.testBit (k + 1) then 1 else 0) = _ + (pcU k (m / 2) + (if (m / 2).testBit k then 1 else 0))
    rw [ih, tb_succ]; omega
theorem tb0 (m : Nat) : m.testBit 0 = decide (m % 2 = 1) := by rw [tb_dm]; simp
theorem pcU_low (k : Nat) : ∀ m, m < 2 ^ k → m ≠ 0 → pcU k (m &&& (m - 1)) + 1 = pcU k m := by
  induction k with
  | zero => intro m h h0; simp at h; omega
  | succ k ih =>
    intro m h h0
    rw [pcU_half, pcU_half k m, Nat.and_div_two, Nat.testBit_and, tb0, tb0]
    have hp : 2 ^ (k + 1) = 2 * 2 ^ k := by rw [Nat.pow_succ]; omega
    rcases Nat.mod_two_eq_zero_or_one m with h2 | h2
    · have e : (m - 1) / 2 = m / 2 - 1 := by omega
      have := ih (m / 2) (by omega) (by omega)
      rw [e, h2]
      simp
      omega
    · have e : (m - 1) / 2 = m / 2 := by omega
      have e2 : (m - 1) % 2 = 0 := by omega
      rw [e, h2, e2, Nat.and_self]
      simp
      omega
theorem pc_low {m : Nat} (hm : m < 16384) (h0 : m ≠ 0) : pcN (m &&& (m - 1)) + 1 = pcN m := pcU_low 14 m hm h0
/-- the JDK's count of bits, on numbers -/
def bcN (m : Nat) : Nat :=
  (fun a => (fun b => (fun c => (fun d => (fun e => e &&& 63) (d + d / 65536)) (c + c / 256)) ((b + b / 16) &&& 252645135)) ((a &&& 858993459) + (a / 4 &&& 858993459))) (m - (m / 2 &&& 1431655765))
theorem bc_0 : ∀ a : Fin 8, ∀ b : Fin 128, bcN (0 + 128 * a.val + b.val) = pcN (0 + 128 * a.val + b.val) := by decide +kernel
theorem bc_1 : ∀ a : Fin 8, ∀ b : Fin 128, bcN (1024 + 128 * a.val + b.val) = pcN (1024 + 128 * a.val + b.val) := by decide +kernel
theorem bc_2 : ∀ a : Fin 8, ∀ b : Fin 128, bcN (2048 + 128 * a.val + b.val) = pcN (2048 + 128 * a.val + b.val) := by decide +kernel
theorem bc_3 : ∀ a : Fin 8, ∀ b : Fin 128, bcN (3072 + 128 * a.val + b.val) = pcN (3072 + 128 * a.val + b.val) := by decide +kernel
theorem bc_4 : ∀ a : Fin 8, ∀ b : Fin 128, bcN (4096 + 128 * a.val + b.val) = pcN (4096 + 128 * a.val + b.val) := by decide +kernel
theorem bc_5 : ∀ a : Fin 8, ∀ b : Fin 128, bcN (5120 + 128 * a.val + b.val) = pcN (5120 + 128 * a.val + b.val) := by decide +kernel
theorem bc_6 : ∀ a : Fin 8, ∀ b : Fin 128, bcN (6144 + 128 * a.val + b.val) = pcN (6144 + 128 * a.val + b.val) := by decide +kernel
theorem bc_7 : ∀ a : Fin 8, ∀ b : Fin 128, bcN (7168 + 128 * a.val + b.val) = pcN (7168 + 128 * a.val + b.val) := by decide +kernel
theorem bc_8 : ∀ a : Fin 8, ∀ b : Fin 128, bcN (8192 + 128 * a.val + b.val) = pcN (8192 + 128 * a.val + b.val) := by decide +kernel
theorem bc_9 : ∀ a : Fin 8, ∀ b : Fin 128, bcN (9216 + 128 * a.val + b.val) = pcN (9216 + 128 * a.val + b.val) := by decide +kernel
theorem bc_10 : ∀ a : Fin 8, ∀ b : Fin 128, bcN (10240 + 128 * a.val + b.val) = pcN (10240 + 128 * a.val + b.val) := by decide +kernel
theorem bc_11 : ∀ a : Fin 8, ∀ b : Fin 128, bcN (11264 + 128 * a.val + b.val) = pcN (11264 + 128 * a.val + b.val) := by decide +kernel
theorem bc_12 : ∀ a : Fin 8, ∀ b : Fin 128, bcN (12288 + 128 * a.val + b.val) = pcN (12288 + 128 * a.val + b.val) := by decide +kernel
theorem bc_13 : ∀ a : Fin 8, ∀ b : Fin 128, bcN (13312 + 128 * a.val + b.val) = pcN (13312 + 128 * a.val + b.val) := by decide +kernel
theorem bc_14 : ∀ a : Fin 8, ∀ b : Fin 128, bcN (14336 + 128 * a.val + b.val) = pcN (14336 + 128 * a.val + b.val) := by decide +kernel
theorem bc_15 : ∀ a : Fin 8, ∀ b : Fin 128, bcN (15360 + 128 * a.val + b.val) = pcN (15360 + 128 * a.val + b.val) := by decide +kernel
theorem bc_pc {m : Nat} (hm : m < 16384) : bcN m = pcN m := by
  have ha : (m % 1024) / 128 < 8 := by omega
  have hb : m % 128 < 128 := by omega
  rcases (show m / 1024 = 0 ∨ m / 1024 = 1 ∨ m / 1024 = 2 ∨ m / 1024 = 3 ∨ m / 1024 = 4 ∨ m / 1024 = 5 ∨ m / 1024 = 6 ∨ m / 1024 = 7 ∨ m / 1024 = 8 ∨ m / 1024 = 9 ∨ m / 1024 = 10 ∨ m / 1024 = 11 ∨ m / 1024 = 12 ∨ m / 1024 = 13 ∨ m / 1024 = 14 ∨ m / 1024 = 15 by omega) with h | h | h | h | h | h | h | h | h | h | h | h | h | h | h | h
  · have := bc_0 ⟨_, ha⟩ ⟨_, hb⟩
    rwa [show 0 + 128 * (m % 1024 / 128) + m % 128 = m from by omega] at this
  · have := bc_1 ⟨_, ha⟩ ⟨_, hb⟩
    rwa [show 1024 + 128 * (m % 1024 / 128) + m % 128 = m from by omega] at this
  · have := bc_2 ⟨_, ha⟩ ⟨_, hb⟩
    rwa [show 2048 + 128 * (m % 1024 / 128) + m % 128 = m from by omega] at this
  · have := bc_3 ⟨_, ha⟩ ⟨_, hb⟩
    rwa [show 3072 + 128 * (m % 1024 / 128) + m % 128 = m from by omega] at this
  · have := bc_4 ⟨_, ha⟩ ⟨_, hb⟩
    rwa [show 4096 + 128 * (m % 1024 / 128) + m % 128 = m from by omega] at this
  · have := bc_5 ⟨_, ha⟩ ⟨_, hb⟩
    rwa [show 5120 + 128 * (m % 1024 / 128) + m % 128 = m from by omega] at this
  · have := bc_6 ⟨_, ha⟩ ⟨_, hb⟩
    rwa [show 6144 + 128 * (m % 1024 / 128) + m % 128 = m from by omega] at this
  · have := bc_7 ⟨_, ha⟩ ⟨_, hb⟩
    rwa [show 7168 + 128 * (m % 1024 / 128) + m % 128 = m from by omega] at this
  · have := bc_8 ⟨_, ha⟩ ⟨_, hb⟩
    rwa [show 8192 + 128 * (m % 1024 / 128) + m % 128 = m from by omega] at this
  · have := bc_9 ⟨_, ha⟩ ⟨_, hb⟩
    rwa [show 9216 + 128 * (m % 1024 / 128) + m % 128 = m from by omega] at this
  · have := bc_10 ⟨_, ha⟩ ⟨_, hb⟩
    rwa [show 10240 + 128 * (m % 1024 / 128) + m % 128 = m from by omega] at this
  · have := bc_11 ⟨_, ha⟩ ⟨_, hb⟩
    rwa [show 11264 + 128 * (m % 1024 / 128) + m % 128 = m from by omega] at this
  · have := bc_12 ⟨_, ha⟩ ⟨_, hb⟩
    rwa [show 12288 + 128 * (m % 1024 / 128) + m % 128 = m from by omega] at this
  · have := bc_13 ⟨_, ha⟩ ⟨_, hb⟩
    rwa [show 13312 + 128 * (m % 1024 / 128) + m % 128 = m from by omega] at this
  · have := bc_14 ⟨_, ha⟩ ⟨_, hb⟩
    rwa [show 14336 + 128 * (m % 1024 / 128) + m % 128 = m from by omega] at this
  · have := bc_15 ⟨_, ha⟩ ⟨_, hb⟩
    rwa [show 15360 + 128 * (m % 1024 / 128) + m % 128 = m from by omega] at this
theorem bitCount_n {m : Nat} (hm : m < 16384) : f_J6_bitCount_0f7a4 (nI m) = some (nI (pcN m)) := by
  rw [← bc_pc hm]
  unfold f_J6_bitCount_0f7a4
  have h1 : m / 2 &&& 1431655765 ≤ m / 2 := Nat.and_le_left
  have e1 : nI m - ((((nI m)).toUInt32 >>> (((1 : Int32)).toUInt32 &&& Int32.toUInt32 31)).toInt32 &&& (1431655765 : Int32)) = nI (m - (m / 2 &&& 1431655765)) := by
    rw [pk_ushrN (by omega) 1 1 (by decide)]
    show nI m - (nI (m / 2 ^ 1) &&& nI 1431655765) = _
    rw [nx_and, pk_sub (by show m / 2 &&& 1431655765 ≤ m; omega)]
  have ea : ∀ a, a < 16384 → (nI a &&& (858993459 : Int32)) + (((nI a).toUInt32 >>> (((2 : Int32)).toUInt32 &&& Int32.toUInt32 31)).toInt32 &&& (858993459 : Int32)) = nI ((a &&& 858993459) + (a / 4 &&& 858993459)) := by
    intro a ha
    rw [pk_ushrN (by omega) 2 2 (by decide)]
    show (nI a &&& nI 858993459) + (nI (a / 2 ^ 2) &&& nI 858993459) = _
    rw [nx_and, nx_and, nI_add]
  have eb : ∀ b, b < 65536 → ((nI b + (((nI b).toUInt32 >>> (((4 : Int32)).toUInt32 &&& Int32.toUInt32 31)).toInt32)) &&& (252645135 : Int32)) = nI ((b + b / 16) &&& 252645135) := by
    intro b hb
    rw [pk_ushrN (by omega) 4 4 (by decide)]
    show (nI b + nI (b / 2 ^ 4)) &&& nI 252645135 = _
    rw [nI_add, nx_and]
  have ec : ∀ c, c < 262144 → (nI c + (((nI c).toUInt32 >>> (((8 : Int32)).toUInt32 &&& Int32.toUInt32 31)).toInt32)) = nI (c + c / 256) := by
    intro c hc
    rw [pk_ushrN (by omega) 8 8 (by decide)]
    exact nI_add _ _
  have ed : ∀ d, d < 1048576 → (nI d + (((nI d).toUInt32 >>> (((16 : Int32)).toUInt32 &&& Int32.toUInt32 31)).toInt32)) = nI (d + d / 65536) := by
    intro d hd
    rw [pk_ushrN (by omega) 16 16 (by decide)]
    exact nI_add _ _
  unfold bnd
  dsimp only
  have b1 : m - (m / 2 &&& 1431655765) < 16384 := by omega
  have q1 := @Nat.and_le_left (m - (m / 2 &&& 1431655765)) 858993459
  have q2 := @Nat.and_le_left ((m - (m / 2 &&& 1431655765)) / 4) 858993459
  have b2 : ((m - (m / 2 &&& 1431655765)) &&& 858993459) + ((m - (m / 2 &&& 1431655765)) / 4 &&& 858993459) < 65536 := by omega
  have q3 := @Nat.and_le_left (((m - (m / 2 &&& 1431655765)) &&& 858993459) + ((m - (m / 2 &&& 1431655765)) / 4 &&& 858993459) + (((m - (m / 2 &&& 1431655765)) &&& 858993459) + ((m - (m / 2 &&& 1431655765)) / 4 &&& 858993459)) / 16) 252645135
  rw [e1, ea _ b1, eb _ b2, ec _ (by omega), ed _ (by omega)]
  show some (nI _ &&& nI 63) = _
  rw [nx_and]; rfl
