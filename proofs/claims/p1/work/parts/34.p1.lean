/-! A fresh object: one call. -/
theorem ok_of {α : Type} {o : Option (α × XS)} {q : Option (α × MS)} {v : α} {P : XS → MS → Prop} (h1 : o.map Prod.fst = some v) (h2 : q.map Prod.fst = some v) (hP : ∀ σ μ, P σ μ) : ∃ v σ' w μ', o = some (v, σ') ∧ q = some (w, μ') ∧ v = w ∧ P σ' μ' := by
  cases o with
  | none => cases h1
  | some a =>
    cases q with
    | none => cases h2
    | some b =>
      obtain ⟨a1, a2⟩ := a
      obtain ⟨b1, b2⟩ := b
      cases h1
      cases h2
      exact ⟨_, a2, _, b2, rfl, rfl, rfl, hP _ _⟩
theorem has4_0 (a : Int32) : f_X4_has a 0 = some 0 := by
  unfold f_X4_has
  by_cases h : a < 0
  · rw [if_pos h]
  · rw [if_neg h, if_pos (Int32.not_lt.mp h)]
theorem has0_0 (a : Int32) : f_X0_has a 0 = some 0 := has4_0 a
theorem knot9_0 (a : Int32) : f_X9_isKnot a 0 = some 0 := has4_0 a
theorem join_0 (a b : Int32) (n : Nat → Int32) : f_X4_joined a b 0 n = some 0 := by
  unfold f_X4_joined
  rw [has4_0]
  rfl
theorem edge9_0 (a b : Int32) (n : Nat → Int32) : f_X9_isEdge a b 0 n = some 0 := by
  unfold f_X9_isEdge
  rw [knot9_0]
  rfl
theorem two_or {x : Int32} (h0 : ¬ x < 0) (h1 : ¬ 2 ≤ x) : x = 0 ∨ x = 1 := by
  have e2 : (2 : Int32).toInt = 2 := rfl
  have e0 : (0 : Int32).toInt = 0 := rfl
  have e1 : (1 : Int32).toInt = 1 := rfl
  rw [Int32.lt_iff_toInt_lt] at h0
  rw [Int32.le_iff_toInt_le] at h1
  rcases (show x.toInt = 0 ∨ x.toInt = 1 by omega) with h | h
  · exact Or.inl (Int32.toInt_inj.mp (h.trans e0.symm))
  · exact Or.inr (Int32.toInt_inj.mp (h.trans e1.symm))
theorem four_or {x : Int32} (h0 : ¬ x < 1) (h1 : x ≤ 4) : x = 1 ∨ x = 2 ∨ x = 3 ∨ x = 4 := by
  have e1 : (1 : Int32).toInt = 1 := rfl
  have e2 : (2 : Int32).toInt = 2 := rfl
  have e3 : (3 : Int32).toInt = 3 := rfl
  have e4 : (4 : Int32).toInt = 4 := rfl
  rw [Int32.lt_iff_toInt_lt] at h0
  rw [Int32.le_iff_toInt_le] at h1
  rcases (show x.toInt = 1 ∨ x.toInt = 2 ∨ x.toInt = 3 ∨ x.toInt = 4 by omega) with h | h | h | h
  · exact Or.inl (Int32.toInt_inj.mp (h.trans e1.symm))
  · exact Or.inr (Or.inl (Int32.toInt_inj.mp (h.trans e2.symm)))
  · exact Or.inr (Or.inr (Or.inl (Int32.toInt_inj.mp (h.trans e3.symm))))
  · exact Or.inr (Or.inr (Or.inr (Int32.toInt_inj.mp (h.trans e4.symm))))
theorem one_or {x : Int32} (h0 : ¬ x < 0) (h1 : ¬ 1 < x) : x = 0 ∨ x = 1 := by
  have e0 : (0 : Int32).toInt = 0 := rfl
  have e1 : (1 : Int32).toInt = 1 := rfl
  rw [Int32.lt_iff_toInt_lt] at h0 h1
  rcases (show x.toInt = 0 ∨ x.toInt = 1 by omega) with h | h
  · exact Or.inl (Int32.toInt_inj.mp (h.trans e0.symm))
  · exact Or.inr (Int32.toInt_inj.mp (h.trans e1.symm))
theorem has3_2 (a : Int32) : f_X3_has a 2 = some 0 ∨ (f_X3_has a 2 = some 1 ∧ (a = 0 ∨ a = 1)) := by
  unfold f_X3_has
  by_cases h : a < 0
  · exact Or.inl (by rw [if_pos h])
  · by_cases h2 : 2 ≤ a
    · exact Or.inl (by rw [if_neg h, if_pos h2])
    · exact Or.inr ⟨by rw [if_neg h, if_neg h2], two_or h h2⟩
theorem fac_or (a : Int32) : f_X8_isFactor a = some 0 ∨ f_X8_isFactor a = some 1 := by
  unfold f_X8_isFactor
  by_cases h : a < -10
  · exact Or.inl (by rw [if_pos h])
  · by_cases h2 : 10 < a
    · exact Or.inl (by rw [if_neg h, if_pos h2])
    · exact Or.inr (by rw [if_neg h, if_neg h2])
theorem wei_or (a : Int32) : f_X8_isWeight a = some 0 ∨ f_X8_isWeight a = some 1 := by
  unfold f_X8_isWeight
  by_cases h : a < 0
  · exact Or.inl (by rw [if_pos h])
  · by_cases h2 : 1000 < a
    · exact Or.inl (by rw [if_neg h, if_pos h2])
    · exact Or.inr (by rw [if_neg h, if_neg h2])
def I1 (j : Nat) (σ : XS) (μ : MS) : Prop := j = 0 → σ = σ0 ∧ μ = μ0
theorem I1_1 (σ : XS) (μ : MS) : I1 (0 + 1) σ μ := fun h => absurd h (by decide)
set_option maxRecDepth 100000 in
theorem p1_0 : Ok_0 I1 0 := by
  intro a1 σ μ h; obtain ⟨rfl, rfl⟩ := h rfl
  have e9 : f_X9_isWeight a1 = f_X8_isWeight a1 := rfl
  rcases wei_or a1 with h | h
  · refine ok_of (v := -2) ?_ ?_ I1_1
    · unfold sx_knot f_X8_knot; rw [h]; rfl
    · unfold sm_knot f_X9_knot; rw [e9, h]; rfl
  · refine ok_of (v := 0) ?_ ?_ I1_1
    · unfold sx_knot f_X8_knot; rw [h]; rfl
    · unfold sm_knot f_X9_knot; rw [e9, h]; rfl
theorem p1_1 : Ok_1 I1 0 := by
  intro a1 a2 a3 σ μ h; obtain ⟨rfl, rfl⟩ := h rfl
  refine ok_of (v := -1) ?_ ?_ I1_1
  · unfold sx_edge f_X8_edge; rw [show σ0.1 0 = 0 from rfl, has4_0]; rfl
  · unfold sm_edge f_X9_edge; rw [show μ0.1 0 = 0 from rfl, knot9_0]; rfl
theorem p1_2 : Ok_2 I1 0 := by
  intro a1 a2 σ μ h; obtain ⟨rfl, rfl⟩ := h rfl
  refine ok_of (v := -1) ?_ ?_ I1_1
  · unfold sx_cut f_X8_cut; rw [show σ0.1 0 = 0 from rfl, join_0]; rfl
  · unfold sm_cut f_X9_cut; rw [show μ0.1 0 = 0 from rfl, edge9_0]; rfl
theorem p1_3 : Ok_3 I1 0 := by
  intro a1 a2 σ μ h; obtain ⟨rfl, rfl⟩ := h rfl
  refine ok_of (v := -1) ?_ ?_ I1_1
  · unfold sx_weigh f_X8_weigh; rw [show σ0.1 0 = 0 from rfl, has4_0]; rfl
  · unfold sm_weigh f_X9_weigh; rw [show μ0.1 0 = 0 from rfl, knot9_0]; rfl
theorem p1_4 : Ok_4 I1 0 := by
  intro a1 a2 σ μ h; obtain ⟨rfl, rfl⟩ := h rfl
  refine ok_of (v := -1) ?_ ?_ I1_1
  · unfold sx_weight f_X8_weight; rw [show σ0.1 0 = 0 from rfl, has4_0, join_0]; by_cases h : a1 = a2
    · rw [if_pos h]; rfl
    · rw [if_neg h]; rfl
  · unfold sm_weight f_X9_weight; rw [show μ0.1 0 = 0 from rfl, knot9_0, edge9_0]; by_cases h : a1 = a2
    · rw [if_pos h]; rfl
    · rw [if_neg h]; rfl
theorem p1_5 : Ok_5 I1 0 := by
  intro a1 σ μ h; obtain ⟨rfl, rfl⟩ := h rfl
  refine ok_of (v := -1) ?_ ?_ I1_1
  · unfold sx_beside f_X8_beside; rw [show σ0.1 0 = 0 from rfl, has4_0]; rfl
  · unfold sm_beside f_X9_beside; rw [show μ0.1 0 = 0 from rfl, knot9_0]; rfl
theorem p1_6 : Ok_6 I1 0 := by
  intro a1 σ μ h; obtain ⟨rfl, rfl⟩ := h rfl
  refine ok_of (v := -1) ?_ ?_ I1_1
  · unfold sx_put f_X8_put; rw [show σ0.1 0 = 0 from rfl, has4_0]; rfl
  · unfold sm_put f_X9_put; rw [show μ0.1 0 = 0 from rfl, knot9_0]; rfl
theorem p1_7 : Ok_7 I1 0 := by
  intro σ μ h; obtain ⟨rfl, rfl⟩ := h rfl
  exact ok_of (v := 0) (by decide +kernel) (by decide +kernel) I1_1
theorem p1_8 : Ok_8 I1 0 := by
  intro σ μ h; obtain ⟨rfl, rfl⟩ := h rfl
  exact ok_of (v := -4) (by decide +kernel) (by decide +kernel) I1_1
theorem p1_9 : Ok_9 I1 0 := by
  intro σ μ h; obtain ⟨rfl, rfl⟩ := h rfl
  exact ok_of (v := 0) (by decide +kernel) (by decide +kernel) I1_1
theorem p1_10 : Ok_10 I1 0 := by
  intro σ μ h; obtain ⟨rfl, rfl⟩ := h rfl
  exact ok_of (v := -1) (by decide +kernel) (by decide +kernel) I1_1
theorem p1_11 : Ok_11 I1 0 := by
  intro σ μ h; obtain ⟨rfl, rfl⟩ := h rfl
  exact ok_of (v := -1) (by decide +kernel) (by decide +kernel) I1_1
theorem p1_12 : Ok_12 I1 0 := by
  intro a1 σ μ h; obtain ⟨rfl, rfl⟩ := h rfl
  refine ok_of (v := -1) ?_ ?_ I1_1
  · unfold sx_row f_X8_row; rw [show σ0.1 2 = 0 from rfl]; by_cases h : a1 < 0
    · rw [if_pos h]; rfl
    · rw [if_neg h, if_pos (Int32.not_lt.mp h)]; rfl
  · unfold sm_row f_X9_row; rw [show μ0.1 1 = 0 from rfl]; by_cases h : a1 < 0
    · rw [if_pos h]; rfl
    · first | (rw [if_neg h, if_pos (Int32.not_lt.mp h)]; rfl) | (rw [if_neg h, if_neg h]; rfl)
theorem p1_13 : Ok_13 I1 0 := by
  intro σ μ h; obtain ⟨rfl, rfl⟩ := h rfl
  exact ok_of (v := -1) (by decide +kernel) (by decide +kernel) I1_1
theorem p1_14 : Ok_14 I1 0 := by
  intro σ μ h; obtain ⟨rfl, rfl⟩ := h rfl
  exact ok_of (v := 0) (by decide +kernel) (by decide +kernel) I1_1
theorem and_m1 (x : Int32) : x &&& ((((1 : Int32) <<< ((0 : Int32) &&& 31)) - (1 : Int32)) ^^^ (-1 : Int32)) = x := by
  have e : ((((1 : Int32) <<< ((0 : Int32) &&& 31)) - (1 : Int32)) ^^^ (-1 : Int32)) = -1 := by decide
  rw [e]
  exact Int32.and_neg_one
theorem p1_15 : Ok_15 I1 0 := by
  intro a1 σ μ h; obtain ⟨rfl, rfl⟩ := h rfl
  refine ok_of (v := -2) ?_ ?_ I1_1
  · unfold sx_bag f_X8_bag f_X4_everyKnot; rw [show σ0.1 0 = 0 from rfl]; by_cases h : a1 = 0
    · rw [if_pos h]; rfl
    · rw [if_neg h]
      show Option.map _ (cal (if a1 &&& _ = 0 then _ else _) _) = _
      rw [and_m1, if_neg h]; rfl
  · unfold sm_bag f_X9_bag f_X9_all; rw [show μ0.1 0 = 0 from rfl]; by_cases h : a1 ≤ 0
    · rw [if_pos h]; rfl
    · rw [if_neg h]
      show Option.map _ (cal (if a1 &&& _ = 0 then _ else _) _) = _
      rw [and_m1, if_neg (fun e => h (by rw [e]; decide))]; rfl
theorem p1_16 : Ok_16 I1 0 := by
  intro a1 a2 σ μ h; obtain ⟨rfl, rfl⟩ := h rfl
  refine ok_of (v := -1) ?_ ?_ I1_1
  · unfold sx_hang f_X8_hang; rw [show σ0.1 4 = 0 from rfl, has0_0]; rfl
  · unfold sm_hang f_X9_hang; rw [show μ0.1 2 = 0 from rfl]; by_cases h : a1 < 0
    · rw [if_pos h]; rfl
    · rw [if_neg h, if_pos (Int32.not_lt.mp h)]; rfl
theorem p1_17 : Ok_17 I1 0 := by
  intro a1 a2 σ μ h; obtain ⟨rfl, rfl⟩ := h rfl
  refine ok_of (v := -1) ?_ ?_ I1_1
  · unfold sx_bagged f_X8_bagged; rw [show σ0.1 4 = 0 from rfl, has0_0]; rfl
  · unfold sm_bagged f_X9_bagged; rw [show μ0.1 2 = 0 from rfl]; by_cases h : a1 < 0
    · rw [if_pos h]; rfl
    · rw [if_neg h, if_neg h]; rfl
theorem p1_18 : Ok_18 I1 0 := by
  intro σ μ h; obtain ⟨rfl, rfl⟩ := h rfl
  exact ok_of (v := -4) (by decide +kernel) (by decide +kernel) I1_1
theorem p1_19 : Ok_19 I1 0 := by
  intro σ μ h; obtain ⟨rfl, rfl⟩ := h rfl
  exact ok_of (v := -1) (by decide +kernel) (by decide +kernel) I1_1
theorem p1_20 : Ok_20 I1 0 := by
  intro σ μ h; obtain ⟨rfl, rfl⟩ := h rfl
  exact ok_of (v := -4) (by decide +kernel) (by decide +kernel) I1_1
theorem p1_21 : Ok_21 I1 0 := by
  intro a1 σ μ h; obtain ⟨rfl, rfl⟩ := h rfl
  by_cases h1 : a1 < 1
  · refine ok_of (v := -2) ?_ ?_ I1_1
    · unfold sx_states f_X8_states; rw [if_pos h1]; rfl
    · unfold sm_states f_X9_states; rw [if_pos h1]; rfl
  · by_cases h2 : a1 ≤ 4
    · rcases four_or h1 h2 with rfl | rfl | rfl | rfl
      · exact ok_of (v := 2) (by decide +kernel) (by decide +kernel) I1_1
      · exact ok_of (v := 2) (by decide +kernel) (by decide +kernel) I1_1
      · exact ok_of (v := 2) (by decide +kernel) (by decide +kernel) I1_1
      · exact ok_of (v := 2) (by decide +kernel) (by decide +kernel) I1_1
    · refine ok_of (v := -2) ?_ ?_ I1_1
      · unfold sx_states f_X8_states; rw [if_neg h1, if_neg h2]; rfl
      · unfold sm_states f_X9_states; rw [if_neg h1, if_neg h2]; rfl
theorem p1_22 : Ok_22 I1 0 := by
  intro a1 a2 σ μ h; obtain ⟨rfl, rfl⟩ := h rfl
  have e1 : f_X9_isState a1 2 = f_X3_has a1 2 := rfl
  have e2 : f_X9_isFactor a2 = f_X8_isFactor a2 := rfl
  rcases has3_2 a1 with h | ⟨h, h'⟩
  · refine ok_of (v := -1) ?_ ?_ I1_1
    · unfold sx_factor f_X8_factor; rw [show σ0.1 5 = 2 from rfl, h]; rfl
    · unfold sm_factor f_X9_factor; rw [show μ0.1 3 = 2 from rfl, e1, h]; rfl
  · rcases fac_or a2 with g | g
    · refine ok_of (v := -2) ?_ ?_ I1_1
      · unfold sx_factor f_X8_factor; rw [show σ0.1 5 = 2 from rfl, h, g]; rfl
      · unfold sm_factor f_X9_factor; rw [show μ0.1 3 = 2 from rfl, e1, e2, h, g]; rfl
    · refine ok_of (v := 100) ?_ ?_ I1_1
      · unfold sx_factor f_X8_factor; rw [show σ0.1 5 = 2 from rfl, h, g]; rcases h' with rfl | rfl <;> rfl
      · unfold sm_factor f_X9_factor; rw [show μ0.1 3 = 2 from rfl, e1, e2, h, g]; rcases h' with rfl | rfl <;> rfl
theorem p1_23 : Ok_23 I1 0 := by
  intro a1 a2 a3 a4 σ μ h; obtain ⟨rfl, rfl⟩ := h rfl
  have e1 : f_X9_isState a1 2 = f_X3_has a1 2 := rfl
  have e3 : f_X9_isState a2 2 = f_X3_has a2 2 := rfl
  have e2 : f_X9_isFactor a4 = f_X8_isFactor a4 := rfl
  rcases has3_2 a1 with h | ⟨h, h'⟩
  · refine ok_of (v := -1) ?_ ?_ I1_1
    · unfold sx_pair f_X8_pair; rw [show σ0.1 5 = 2 from rfl, h]; rfl
    · unfold sm_pair f_X9_pair; rw [show μ0.1 3 = 2 from rfl, e1, h]; rfl
  · rcases has3_2 a2 with k | ⟨k, k'⟩
    · refine ok_of (v := -1) ?_ ?_ I1_1
      · unfold sx_pair f_X8_pair; rw [show σ0.1 5 = 2 from rfl, h, k]; rfl
      · unfold sm_pair f_X9_pair; rw [show μ0.1 3 = 2 from rfl, e1, e3, h, k]; rfl
    · by_cases m1 : a3 < 0
      · refine ok_of (v := -2) ?_ ?_ I1_1
        · unfold sx_pair f_X8_pair; rw [show σ0.1 5 = 2 from rfl, h, k, if_pos m1]; rfl
        · unfold sm_pair f_X9_pair; rw [show μ0.1 3 = 2 from rfl, e1, e3, h, k, if_pos m1]; rfl
      · by_cases m2 : 1 < a3
        · refine ok_of (v := -2) ?_ ?_ I1_1
          · unfold sx_pair f_X8_pair; rw [show σ0.1 5 = 2 from rfl, h, k, if_neg m1, if_pos m2]; rfl
          · unfold sm_pair f_X9_pair; rw [show μ0.1 3 = 2 from rfl, e1, e3, h, k, if_neg m1, if_pos m2]; rfl
        · rcases fac_or a4 with g | g
          · refine ok_of (v := -2) ?_ ?_ I1_1
            · unfold sx_pair f_X8_pair; rw [show σ0.1 5 = 2 from rfl, h, k, if_neg m1, if_neg m2, g]; rfl
            · unfold sm_pair f_X9_pair; rw [show μ0.1 3 = 2 from rfl, e1, e3, h, k, if_neg m1, if_neg m2, e2, g]; rfl
          · rcases one_or m1 m2 with m | m
            · refine ok_of (v := 100) ?_ ?_ I1_1
              · unfold sx_pair f_X8_pair; rw [show σ0.1 5 = 2 from rfl, h, k, if_neg m1, if_neg m2, g]; subst m; rcases h' with rfl | rfl <;> rcases k' with rfl | rfl <;> rfl
              · unfold sm_pair f_X9_pair; rw [show μ0.1 3 = 2 from rfl, e1, e3, h, k, if_neg m1, if_neg m2, e2, g]; subst m; rcases h' with rfl | rfl <;> rcases k' with rfl | rfl <;> rfl
            · refine ok_of (v := 100) ?_ ?_ I1_1
              · unfold sx_pair f_X8_pair; rw [show σ0.1 5 = 2 from rfl, h, k, if_neg m1, if_neg m2, g]; subst m; rcases h' with rfl | rfl <;> rcases k' with rfl | rfl <;> rfl
              · unfold sm_pair f_X9_pair; rw [show μ0.1 3 = 2 from rfl, e1, e3, h, k, if_neg m1, if_neg m2, e2, g]; subst m; rcases h' with rfl | rfl <;> rcases k' with rfl | rfl <;> rfl
theorem p1_24 : Ok_24 I1 0 := by
  intro a1 a2 σ μ h; obtain ⟨rfl, rfl⟩ := h rfl
  refine ok_of (v := -1) ?_ ?_ I1_1
  · unfold sx_forbid f_X8_forbid; rw [show σ0.1 0 = 0 from rfl, has4_0]; rfl
  · unfold sm_forbid f_X9_forbid; rw [show μ0.1 0 = 0 from rfl, knot9_0]; rfl
theorem p1_25 : Ok_25 I1 0 := by
  intro σ μ h; obtain ⟨rfl, rfl⟩ := h rfl
  exact ok_of (v := -9223372036854775808) (by decide +kernel) (by decide +kernel) I1_1
theorem p1_26 : Ok_26 I1 0 := by
  intro a1 σ μ hb h; obtain ⟨rfl, rfl⟩ := h rfl
  rcases hb with rfl | rfl
  · exact ok_of (v := -9223372036854775808) (by decide +kernel) (by decide +kernel) I1_1
  · exact ok_of (v := -9223372036854775808) (by decide +kernel) (by decide +kernel) I1_1
theorem p1_27 : Ok_27 I1 0 := by
  intro a1 σ μ hb h; obtain ⟨rfl, rfl⟩ := h rfl
  rcases hb with rfl | rfl
  · exact ok_of (v := -9223372036854775808) (by decide +kernel) (by decide +kernel) I1_1
  · exact ok_of (v := -9223372036854775808) (by decide +kernel) (by decide +kernel) I1_1
theorem p1_28 : Ok_28 I1 0 := by
  intro a1 a2 σ μ hb h; obtain ⟨rfl, rfl⟩ := h rfl
  refine ok_of (v := -1) ?_ ?_ I1_1
  · unfold sx_choice f_X8_choice; rw [show σ0.1 0 = 0 from rfl, has4_0]; rfl
  · unfold sm_choice f_X9_choice; rw [show μ0.1 0 = 0 from rfl, knot9_0]; rfl
theorem p1_29 : Ok_29 I1 0 := by
  intro a1 a3 σ μ h; obtain ⟨rfl, rfl⟩ := h rfl
  refine ok_of (v := -1) ?_ ?_ I1_1
  · unfold sx_drawn f_X8_drawn; rw [show σ0.1 0 = 0 from rfl, has4_0]; by_cases h : lg_cmp a1 0 < 0
    · rw [if_pos h]; rfl
    · rw [if_neg h]; rfl
  · unfold sm_drawn f_X9_drawn; rw [show μ0.1 0 = 0 from rfl, knot9_0]; rfl
theorem ask8 : f_X8_canAsk 0 (fun _ => 0) 0 (fun _ => 0) (fun _ => 0) = some 0 := rfl
theorem ask9 : f_X9_isAsked 0 0 (fun _ => 0) (fun _ => 0) (fun _ => 0) = some 0 := rfl
theorem p1_30 : Ok_30 I1 0 := by
  intro a1 a2 σ μ h; obtain ⟨rfl, rfl⟩ := h rfl
  refine ok_of (v := -9223372036854775808) ?_ ?_ I1_1
  · rfl
  · rfl
theorem p1_31 : Ok_31 I1 0 := by
  intro a1 σ μ h; obtain ⟨rfl, rfl⟩ := h rfl
  by_cases h0 : a1 = 0
  · subst h0; exact ok_of (v := 0) (by decide +kernel) (by decide +kernel) I1_1
  by_cases h1 : a1 = 1
  · subst h1; exact ok_of (v := 0) (by decide +kernel) (by decide +kernel) I1_1
  by_cases h2 : a1 = 2
  · subst h2; exact ok_of (v := 0) (by decide +kernel) (by decide +kernel) I1_1
  by_cases h3 : a1 = 3
  · subst h3; exact ok_of (v := 0) (by decide +kernel) (by decide +kernel) I1_1
  by_cases h4 : a1 = 4
  · subst h4; exact ok_of (v := 2) (by decide +kernel) (by decide +kernel) I1_1
  by_cases h5 : a1 = 5
  · subst h5; exact ok_of (v := 0) (by decide +kernel) (by decide +kernel) I1_1
  refine ok_of (v := -1) ?_ ?_ I1_1
  · unfold sx_count f_X8_count; rw [if_neg h0, if_neg h1, if_neg h2, if_neg h3, if_neg h4, if_neg h5]; rfl
  · unfold sm_count f_X9_count bnd; dsimp only; rw [if_neg h0, if_neg h1, if_neg h2, if_neg h3, if_neg h4, if_neg h5]; rfl
theorem p1_all : OkAll I1 0 := ⟨p1_0, p1_1, p1_2, p1_3, p1_4, p1_5, p1_6, p1_7, p1_8, p1_9, p1_10, p1_11, p1_12, p1_13, p1_14, p1_15, p1_16, p1_17, p1_18, p1_19, p1_20, p1_21, p1_22, p1_23, p1_24, p1_25, p1_26, p1_27, p1_28, p1_29, p1_30, p1_31⟩
