/-! That a function answers, and what of the answer is known. -/
def Sat {α : Type} (o : Option α) (P : α → Prop) : Prop := ∃ a, o = some a ∧ P a
theorem sat_bnd {α β : Type} {a : α} {k : α → Option β} {P : β → Prop} (h : ∀ x, x = a → Sat (k x) P) : Sat (bnd a k) P := h a rfl
theorem sat_some {α : Type} {a : α} {P : α → Prop} (h : P a) : Sat (some a) P := ⟨a, rfl, h⟩
theorem sat_ldA {α β : Type} {f : Nat → α} {n : Nat} {i : Int32} {k : α → Option β} {P : β → Prop} (hi : okI i n) (h : ∀ v, v = f i.toNatClampNeg → Sat (k v) P) : Sat (ldA f n i k) P := by
  unfold ldA; rw [if_pos hi]; exact h _ rfl
theorem sat_stI {β : Type} {f : Nat → Int32} {n : Nat} {i x : Int32} {k : (Nat → Int32) → Option β} {P : β → Prop} (hi : okI i n) (h : ∀ g, g = upd f i.toNatClampNeg x → Sat (k g) P) : Sat (stI f n i x k) P := by
  unfold stI; rw [if_pos hi]; exact h _ rfl
theorem sat_stZ {β : Type} {f : Nat → Int32} {n : Nat} {i x : Int32} {k : (Nat → Int32) → Option β} {P : β → Prop} (hi : okI i n) (h : ∀ g, g = upd f i.toNatClampNeg (vp_nar .boolean x) → Sat (k g) P) : Sat (stZ f n i x k) P := by
  unfold stZ; rw [if_pos hi]; exact h _ rfl
theorem sat_stJ {β : Type} {f : Nat → Int64} {n : Nat} {i : Int32} {x : Int64} {k : (Nat → Int64) → Option β} {P : β → Prop} (hi : okI i n) (h : ∀ g, g = vp_updL f i.toNatClampNeg x → Sat (k g) P) : Sat (stJ f n i x k) P := by
  unfold stJ; rw [if_pos hi]; exact h _ rfl
theorem sat_cal {α β : Type} {o : Option α} {k : α → Option β} {Q : α → Prop} {P : β → Prop} (ho : Sat o Q) (h : ∀ u, Q u → Sat (k u) P) : Sat (cal o k) P := by
  obtain ⟨a, rfl, hq⟩ := ho
  exact h a hq
theorem sat_ite {β : Type} {c : Prop} [Decidable c] {x y : Option β} {P : β → Prop} (h1 : c → Sat x P) (h2 : ¬ c → Sat y P) : Sat (if c then x else y) P := by
  by_cases h : c
  · rw [if_pos h]; exact h1 h
  · rw [if_neg h]; exact h2 h
theorem sat_chk {β : Type} {c : Prop} [Decidable c] {k : Option β} {P : β → Prop} (hc : c) (h : Sat k P) : Sat (chk c k) P := by
  unfold chk; rw [if_pos hc]; exact h
theorem sat_mono {α : Type} {o : Option α} {P Q : α → Prop} (h : Sat o P) (hPQ : ∀ a, P a → Q a) : Sat o Q := by
  obtain ⟨a, e, hp⟩ := h
  exact ⟨a, e, hPQ a hp⟩
theorem i32_eq (a b : Int32) : (a = b) ↔ (a.toInt = b.toInt) := Int32.toInt_inj.symm
theorem okI_of {i : Int32} {n : Nat} (h : 0 ≤ i.toInt ∧ i.toInt < (n : Int)) : okI i n := by
  intro hh
  rcases hh with h1 | h1
  · rw [Int32.lt_iff_toInt_lt] at h1
    have e0 : (0 : Int32).toInt = 0 := rfl
    omega
  · have : i.toNatClampNeg = i.toInt.toNat := rfl
    omega
theorem ra_get {v : Int32} {f : Nat → Int32} {k : Nat} {lo hi : Int} (e : v = f k) (h : ∀ i, lo ≤ (f i).toInt ∧ (f i).toInt ≤ hi) : lo ≤ v.toInt ∧ v.toInt ≤ hi := by
  subst e; exact h k
theorem ra_upd {f g : Nat → Int32} {k : Nat} {x : Int32} {lo hi : Int} (e : g = upd f k x) (h : ∀ i, lo ≤ (f i).toInt ∧ (f i).toInt ≤ hi) (hx : lo ≤ x.toInt ∧ x.toInt ≤ hi) : ∀ i, lo ≤ (g i).toInt ∧ (g i).toInt ≤ hi := by
  subst e; intro i; unfold upd
  by_cases hi : i = k
  · rw [if_pos hi]; exact hx
  · rw [if_neg hi]; exact h i
theorem mm {x a b : Int32} {c : Prop} [Decidable c] (e : x = if c then a else b) : x.toInt = a.toInt ∨ x.toInt = b.toInt := by
  subst e
  by_cases h : c
  · rw [if_pos h]; exact Or.inl rfl
  · rw [if_neg h]; exact Or.inr rfl
theorem b01 {v : Int32} (h : 0 ≤ v.toInt ∧ v.toInt ≤ 1) : v = 0 ∨ v = 1 := by
  have e0 : (0 : Int32).toInt = 0 := rfl
  have e1 : (1 : Int32).toInt = 1 := rfl
  rw [i32_eq, i32_eq]
  omega
theorem bm_small {x : Int} (h1 : -2147483648 ≤ x) (h2 : x ≤ 2147483647) : x.bmod (2 ^ 32) = x := by
  have : (2 : Nat) ^ 32 = 4294967296 := by decide
  rw [this]
  unfold Int.bmod
  simp only []
  split <;> omega
theorem ti_add {a b : Int32} (h1 : -2147483648 ≤ a.toInt + b.toInt) (h2 : a.toInt + b.toInt ≤ 2147483647) : (a + b).toInt = a.toInt + b.toInt := by
  rw [Int32.toInt_add]; exact bm_small h1 h2
theorem ti_sub {a b : Int32} (h1 : -2147483648 ≤ a.toInt - b.toInt) (h2 : a.toInt - b.toInt ≤ 2147483647) : (a - b).toInt = a.toInt - b.toInt := by
  rw [Int32.toInt_sub]; exact bm_small h1 h2
theorem ti_mul {a b : Int32} (h1 : -2147483648 ≤ a.toInt * b.toInt) (h2 : a.toInt * b.toInt ≤ 2147483647) : (a * b).toInt = a.toInt * b.toInt := by
  rw [Int32.toInt_mul]; exact bm_small h1 h2
theorem NN_i : ((NN : Nat) : Int) = 32768 := rfl
theorem ti_mulc {a c : Int32} {k : Int} (hc : c.toInt = k) (h : -2147483648 ≤ a.toInt * k ∧ a.toInt * k ≤ 2147483647) : (a * c).toInt = a.toInt * k := by
  subst hc; exact ti_mul h.1 h.2
theorem ti_cmul {a c : Int32} {k : Int} (hc : c.toInt = k) (h : -2147483648 ≤ k * a.toInt ∧ k * a.toInt ≤ 2147483647) : (c * a).toInt = k * a.toInt := by
  subst hc; exact ti_mul h.1 h.2
theorem ple {a b : Int32} (h : a ≤ b) : a.toInt ≤ b.toInt := Int32.le_iff_toInt_le.mp h
theorem plt {a b : Int32} (h : a < b) : a.toInt < b.toInt := Int32.lt_iff_toInt_lt.mp h
theorem nle {a b : Int32} (h : ¬ a ≤ b) : b.toInt < a.toInt := by
  have := mt Int32.le_iff_toInt_le.mpr h; omega
theorem nlt {a b : Int32} (h : ¬ a < b) : b.toInt ≤ a.toInt := by
  have := mt Int32.lt_iff_toInt_lt.mpr h; omega
theorem neq {a b : Int32} (h : ¬ a = b) : a.toInt ≠ b.toInt := fun e => h (Int32.toInt_inj.mp e)
/-- the strides of a step: at most 1, 4, 16, 64 -/
def ST (f : Nat → Int32) : Prop := ∀ s, (0 ≤ (f (4 * s)).toInt ∧ (f (4 * s)).toInt ≤ 1) ∧ (0 ≤ (f (4 * s + 1)).toInt ∧ (f (4 * s + 1)).toInt ≤ 4) ∧ (0 ≤ (f (4 * s + 2)).toInt ∧ (f (4 * s + 2)).toInt ≤ 16) ∧ (0 ≤ (f (4 * s + 3)).toInt ∧ (f (4 * s + 3)).toInt ≤ 64)
theorem tn {x : Int32} (h : 0 ≤ x.toInt) : (x.toNatClampNeg : Int) = x.toInt := by
  have : x.toNatClampNeg = x.toInt.toNat := rfl
  omega
theorem upd_or {f g : Nat → Int32} {k : Nat} {x : Int32} (e : g = upd f k x) (i : Nat) : (i = k ∧ (g i).toInt = x.toInt) ∨ (i ≠ k ∧ (g i).toInt = (f i).toInt) := by
  subst e; unfold upd
  by_cases hi : i = k
  · exact Or.inl ⟨hi, by rw [if_pos hi]⟩
  · exact Or.inr ⟨hi, by rw [if_neg hi]⟩
theorem st_get {f : Nat → Int32} {v : Int32} {k : Nat} (h : ST f) (e : v = f k) : 0 ≤ v.toInt ∧ (k % 4 = 0 → v.toInt ≤ 1) ∧ (k % 4 = 1 → v.toInt ≤ 4) ∧ (k % 4 = 2 → v.toInt ≤ 16) ∧ (k % 4 = 3 → v.toInt ≤ 64) := by
  subst e
  obtain ⟨h0, h1, h2, h3⟩ := h (k / 4)
  rcases (show k = 4 * (k / 4) ∨ k = 4 * (k / 4) + 1 ∨ k = 4 * (k / 4) + 2 ∨ k = 4 * (k / 4) + 3 by omega) with e | e | e | e
  · rw [← e] at h0; omega
  · rw [← e] at h1; omega
  · rw [← e] at h2; omega
  · rw [← e] at h3; omega
theorem st_upd {f g : Nat → Int32} {x : Int32} {k : Nat} (h : ST f) (e : g = upd f k x) (hx : 0 ≤ x.toInt ∧ (k % 4 = 0 → x.toInt ≤ 1) ∧ (k % 4 = 1 → x.toInt ≤ 4) ∧ (k % 4 = 2 → x.toInt ≤ 16) ∧ (k % 4 = 3 → x.toInt ≤ 64)) : ST g := by
  intro s
  obtain ⟨h0, h1, h2, h3⟩ := h s
  have u0 := upd_or e (4 * s)
  have u1 := upd_or e (4 * s + 1)
  have u2 := upd_or e (4 * s + 2)
  have u3 := upd_or e (4 * s + 3)
  refine ⟨?_, ?_, ?_, ?_⟩ <;> omega
theorem mul_bd {a b c : Int} (h1 : 0 ≤ a) (h2 : a ≤ c) (h3 : 0 ≤ b) : 0 ≤ a * b ∧ a * b ≤ c * b := ⟨Int.mul_nonneg h1 h3, Int.mul_le_mul_of_nonneg_right h2 h3⟩
theorem st_get0 {f : Nat → Int32} {v : Int32} {k : Nat} (h : ST f) (e : v = f k) (hk : k % 4 = 0) : 0 ≤ v.toInt ∧ v.toInt ≤ 1 := by
  have q := st_get h e; exact ⟨q.1, q.2.1 hk⟩
theorem st_get1 {f : Nat → Int32} {v : Int32} {k : Nat} (h : ST f) (e : v = f k) (hk : k % 4 = 1) : 0 ≤ v.toInt ∧ v.toInt ≤ 4 := by
  have q := st_get h e; exact ⟨q.1, q.2.2.1 hk⟩
theorem st_get2 {f : Nat → Int32} {v : Int32} {k : Nat} (h : ST f) (e : v = f k) (hk : k % 4 = 2) : 0 ≤ v.toInt ∧ v.toInt ≤ 16 := by
  have q := st_get h e; exact ⟨q.1, q.2.2.2.1 hk⟩
theorem st_get3 {f : Nat → Int32} {v : Int32} {k : Nat} (h : ST f) (e : v = f k) (hk : k % 4 = 3) : 0 ≤ v.toInt ∧ v.toInt ≤ 64 := by
  have q := st_get h e; exact ⟨q.1, q.2.2.2.2 hk⟩
theorem mul_c {a b : Int32} {A B C : Int} (h1 : 0 ≤ a.toInt ∧ a.toInt ≤ A) (h2 : 0 ≤ b.toInt ∧ b.toInt ≤ B) (hC : A * B ≤ C) (hb : C ≤ 2147483647) (hA : 0 ≤ A) : 0 ≤ (a * b).toInt ∧ (a * b).toInt ≤ C := by
  have p1 := Int.mul_nonneg h1.1 h2.1
  have p2 : a.toInt * b.toInt ≤ A * B := Int.mul_le_mul h1.2 h2.2 h2.1 hA
  rw [ti_mul (by omega) (by omega)]
  omega
theorem ti_dec {x : Int32} (h : -2147483648 < x.toInt ∧ x.toInt ≤ 2147483647) : (x + (-1 : Int32)).toInt = x.toInt - 1 := by
  have l : (-1 : Int32).toInt = -1 := rfl
  rw [Int32.toInt_add, l]
  exact bm_small (by omega) (by omega)
theorem wb_of32' (x : Int32) : ∃ n, n < 2 ^ 32 ∧ x = nI n := ⟨x.toBitVec.toNat, x.toBitVec.isLt, Int32.toBitVec_inj.mp (by show _ = BitVec.ofNat 32 _; simp)⟩
theorem and_rg {x a b : Int32} {hi : Int} (e : x = a &&& b) (h : 0 ≤ a.toInt ∧ a.toInt ≤ hi) : 0 ≤ x.toInt ∧ x.toInt ≤ hi := by
  have ha : ¬ a < 0 := fun hh => by
    have := plt hh
    have e0 : (0 : Int32).toInt = 0 := rfl
    omega
  obtain ⟨m, hm, rfl⟩ := nI_of ha
  obtain ⟨k, hk, rfl⟩ := wb_of32' b
  rw [nx_and] at e
  subst e
  have hle : m &&& k ≤ m := Nat.and_le_left
  rw [nI_toInt hm] at h
  rw [nI_toInt (Nat.lt_of_le_of_lt hle hm)]
  omega
theorem and_cm (a b : Int32) : a &&& b = b &&& a := by
  obtain ⟨m, _, rfl⟩ := wb_of32' a
  obtain ⟨k, _, rfl⟩ := wb_of32' b
  rw [nx_and, nx_and, Nat.and_comm]
theorem and_rg2 {x a b : Int32} {hi : Int} (e : x = a &&& b) (h : 0 ≤ b.toInt ∧ b.toInt ≤ hi) : 0 ≤ x.toInt ∧ x.toInt ≤ hi := and_rg (e.trans (and_cm a b)) h
theorem sh6 {a : Int32} (h : 0 ≤ a.toInt ∧ a.toInt ≤ 16383) : 0 ≤ (a >>> ((6 : Int32) &&& 31)).toInt ∧ (a >>> ((6 : Int32) &&& 31)).toInt < ((256 : Nat) : Int) := by
  rw [pk_shr a ((6 : Int32) &&& 31) 6 (by decide), Int.shiftRight_eq_div_pow]
  have : ((2 ^ 6 : Nat) : Int) = 64 := by decide
  rw [this]
  omega
theorem s_X4_everyKnot (t_size : Int32) (h_t_size : 0 ≤ t_size.toInt ∧ t_size.toInt ≤ 14) : Sat (f_X4_everyKnot t_size) (fun r => (0 ≤ r.toInt ∧ r.toInt ≤ 16383) ∧ True) := by
  unfold f_X4_everyKnot
  have h0 : ¬ t_size < 0 := fun hh => by
    have := plt hh
    have e0 : (0 : Int32).toInt = 0 := rfl
    omega
  obtain ⟨m, hm, rfl⟩ := nI_of h0
  rw [nI_toInt hm] at h_t_size
  refine sat_some ⟨?_, trivial⟩
  have key : ∀ k : Fin 15, 0 ≤ ((((1 : Int32) <<< (nI k.val &&& 31)) - (1 : Int32))).toInt ∧ ((((1 : Int32) <<< (nI k.val &&& 31)) - (1 : Int32))).toInt ≤ 16383 := by decide +kernel
  exact key ⟨m, by omega⟩
