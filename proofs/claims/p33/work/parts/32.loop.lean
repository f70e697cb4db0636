def Ok_0 (I : Nat → XS → MS → Prop) (j : Nat) : Prop := ∀ (a1 : Int32) (σ : XS) (μ : MS), I j σ μ → ∃ v σ' w μ', sx_knot a1 σ = some (v, σ') ∧ sm_knot a1 μ = some (w, μ') ∧ True ∧ I (j + 1) σ' μ'
def Ok_1 (I : Nat → XS → MS → Prop) (j : Nat) : Prop := ∀ (a1 : Int32) (a2 : Int32) (a3 : Int32) (σ : XS) (μ : MS), I j σ μ → ∃ v σ' w μ', sx_edge a1 a2 a3 σ = some (v, σ') ∧ sm_edge a1 a2 a3 μ = some (w, μ') ∧ True ∧ I (j + 1) σ' μ'
def Ok_2 (I : Nat → XS → MS → Prop) (j : Nat) : Prop := ∀ (a1 : Int32) (a2 : Int32) (σ : XS) (μ : MS), I j σ μ → ∃ v σ' w μ', sx_cut a1 a2 σ = some (v, σ') ∧ sm_cut a1 a2 μ = some (w, μ') ∧ True ∧ I (j + 1) σ' μ'
def Ok_3 (I : Nat → XS → MS → Prop) (j : Nat) : Prop := ∀ (a1 : Int32) (a2 : Int32) (σ : XS) (μ : MS), I j σ μ → ∃ v σ' w μ', sx_weigh a1 a2 σ = some (v, σ') ∧ sm_weigh a1 a2 μ = some (w, μ') ∧ True ∧ I (j + 1) σ' μ'
def Ok_4 (I : Nat → XS → MS → Prop) (j : Nat) : Prop := ∀ (a1 : Int32) (a2 : Int32) (σ : XS) (μ : MS), I j σ μ → ∃ v σ' w μ', sx_weight a1 a2 σ = some (v, σ') ∧ sm_weight a1 a2 μ = some (w, μ') ∧ True ∧ I (j + 1) σ' μ'
def Ok_5 (I : Nat → XS → MS → Prop) (j : Nat) : Prop := ∀ (a1 : Int32) (σ : XS) (μ : MS), I j σ μ → ∃ v σ' w μ', sx_beside a1 σ = some (v, σ') ∧ sm_beside a1 μ = some (w, μ') ∧ True ∧ I (j + 1) σ' μ'
def Ok_6 (I : Nat → XS → MS → Prop) (j : Nat) : Prop := ∀ (a1 : Int32) (σ : XS) (μ : MS), I j σ μ → ∃ v σ' w μ', sx_put a1 σ = some (v, σ') ∧ sm_put a1 μ = some (w, μ') ∧ True ∧ I (j + 1) σ' μ'
def Ok_7 (I : Nat → XS → MS → Prop) (j : Nat) : Prop := ∀  (σ : XS) (μ : MS), I j σ μ → ∃ v σ' w μ', sx_wipe  σ = some (v, σ') ∧ sm_wipe  μ = some (w, μ') ∧ True ∧ I (j + 1) σ' μ'
def Ok_8 (I : Nat → XS → MS → Prop) (j : Nat) : Prop := ∀  (σ : XS) (μ : MS), I j σ μ → ∃ v σ' w μ', sx_make  σ = some (v, σ') ∧ sm_make  μ = some (w, μ') ∧ True ∧ I (j + 1) σ' μ'
def Ok_9 (I : Nat → XS → MS → Prop) (j : Nat) : Prop := ∀  (σ : XS) (μ : MS), I j σ μ → ∃ v σ' w μ', sx_fills  σ = some (v, σ') ∧ sm_fills  μ = some (w, μ') ∧ True ∧ I (j + 1) σ' μ'
def Ok_10 (I : Nat → XS → MS → Prop) (j : Nat) : Prop := ∀  (σ : XS) (μ : MS), I j σ μ → ∃ v σ' w μ', sx_fewest  σ = some (v, σ') ∧ sm_fewest  μ = some (w, μ') ∧ True ∧ I (j + 1) σ' μ'
def Ok_11 (I : Nat → XS → MS → Prop) (j : Nat) : Prop := ∀  (σ : XS) (μ : MS), I j σ μ → ∃ v σ' w μ', sx_least  σ = some (v, σ') ∧ sm_least  μ = some (w, μ') ∧ True ∧ I (j + 1) σ' μ'
def Ok_12 (I : Nat → XS → MS → Prop) (j : Nat) : Prop := ∀ (a1 : Int32) (σ : XS) (μ : MS), I j σ μ → ∃ v σ' w μ', sx_row a1 σ = some (v, σ') ∧ sm_row a1 μ = some (w, μ') ∧ True ∧ I (j + 1) σ' μ'
def Ok_13 (I : Nat → XS → MS → Prop) (j : Nat) : Prop := ∀  (σ : XS) (μ : MS), I j σ μ → ∃ v σ' w μ', sx_below  σ = some (v, σ') ∧ sm_below  μ = some (w, μ') ∧ True ∧ I (j + 1) σ' μ'
def Ok_14 (I : Nat → XS → MS → Prop) (j : Nat) : Prop := ∀  (σ : XS) (μ : MS), I j σ μ → ∃ v σ' w μ', sx_clear  σ = some (v, σ') ∧ sm_clear  μ = some (w, μ') ∧ True ∧ I (j + 1) σ' μ'
def Ok_15 (I : Nat → XS → MS → Prop) (j : Nat) : Prop := ∀ (a1 : Int32) (σ : XS) (μ : MS), I j σ μ → ∃ v σ' w μ', sx_bag a1 σ = some (v, σ') ∧ sm_bag a1 μ = some (w, μ') ∧ True ∧ I (j + 1) σ' μ'
def Ok_16 (I : Nat → XS → MS → Prop) (j : Nat) : Prop := ∀ (a1 : Int32) (a2 : Int32) (σ : XS) (μ : MS), I j σ μ → ∃ v σ' w μ', sx_hang a1 a2 σ = some (v, σ') ∧ sm_hang a1 a2 μ = some (w, μ') ∧ True ∧ I (j + 1) σ' μ'
def Ok_17 (I : Nat → XS → MS → Prop) (j : Nat) : Prop := ∀ (a1 : Int32) (a2 : Int32) (σ : XS) (μ : MS), I j σ μ → ∃ v σ' w μ', sx_bagged a1 a2 σ = some (v, σ') ∧ sm_bagged a1 a2 μ = some (w, μ') ∧ True ∧ I (j + 1) σ' μ'
def Ok_18 (I : Nat → XS → MS → Prop) (j : Nat) : Prop := ∀  (σ : XS) (μ : MS), I j σ μ → ∃ v σ' w μ', sx_sound  σ = some (v, σ') ∧ sm_sound  μ = some (w, μ') ∧ True ∧ I (j + 1) σ' μ'
def Ok_19 (I : Nat → XS → MS → Prop) (j : Nat) : Prop := ∀  (σ : XS) (μ : MS), I j σ μ → ∃ v σ' w μ', sx_width  σ = some (v, σ') ∧ sm_width  μ = some (w, μ') ∧ True ∧ I (j + 1) σ' μ'
def Ok_20 (I : Nat → XS → MS → Prop) (j : Nat) : Prop := ∀  (σ : XS) (μ : MS), I j σ μ → ∃ v σ' w μ', sx_separator  σ = some (v, σ') ∧ sm_separator  μ = some (w, μ') ∧ True ∧ I (j + 1) σ' μ'
def Ok_21 (I : Nat → XS → MS → Prop) (j : Nat) : Prop := ∀ (a1 : Int32) (σ : XS) (μ : MS), I j σ μ → ∃ v σ' w μ', sx_states a1 σ = some (v, σ') ∧ sm_states a1 μ = some (w, μ') ∧ True ∧ I (j + 1) σ' μ'
def Ok_22 (I : Nat → XS → MS → Prop) (j : Nat) : Prop := ∀ (a1 : Int32) (a2 : Int32) (σ : XS) (μ : MS), I j σ μ → ∃ v σ' w μ', sx_factor a1 a2 σ = some (v, σ') ∧ sm_factor a1 a2 μ = some (w, μ') ∧ True ∧ I (j + 1) σ' μ'
def Ok_23 (I : Nat → XS → MS → Prop) (j : Nat) : Prop := ∀ (a1 : Int32) (a2 : Int32) (a3 : Int32) (a4 : Int32) (σ : XS) (μ : MS), I j σ μ → ∃ v σ' w μ', sx_pair a1 a2 a3 a4 σ = some (v, σ') ∧ sm_pair a1 a2 a3 a4 μ = some (w, μ') ∧ True ∧ I (j + 1) σ' μ'
def Ok_24 (I : Nat → XS → MS → Prop) (j : Nat) : Prop := ∀ (a1 : Int32) (a2 : Int32) (σ : XS) (μ : MS), I j σ μ → ∃ v σ' w μ', sx_forbid a1 a2 σ = some (v, σ') ∧ sm_forbid a1 a2 μ = some (w, μ') ∧ True ∧ I (j + 1) σ' μ'
def Ok_25 (I : Nat → XS → MS → Prop) (j : Nat) : Prop := ∀  (σ : XS) (μ : MS), I j σ μ → ∃ v σ' w μ', sx_ways  σ = some (v, σ') ∧ sm_ways  μ = some (w, μ') ∧ True ∧ I (j + 1) σ' μ'
def Ok_26 (I : Nat → XS → MS → Prop) (j : Nat) : Prop := ∀ (a1 : Int32) (σ : XS) (μ : MS), (a1 = 0 ∨ a1 = 1) → I j σ μ → ∃ v σ' w μ', sx_best a1 σ = some (v, σ') ∧ sm_best a1 μ = some (w, μ') ∧ True ∧ I (j + 1) σ' μ'
def Ok_27 (I : Nat → XS → MS → Prop) (j : Nat) : Prop := ∀ (a1 : Int32) (σ : XS) (μ : MS), (a1 = 0 ∨ a1 = 1) → I j σ μ → ∃ v σ' w μ', sx_bests a1 σ = some (v, σ') ∧ sm_bests a1 μ = some (w, μ') ∧ True ∧ I (j + 1) σ' μ'
def Ok_28 (I : Nat → XS → MS → Prop) (j : Nat) : Prop := ∀ (a1 : Int32) (a2 : Int32) (σ : XS) (μ : MS), (a1 = 0 ∨ a1 = 1) → I j σ μ → ∃ v σ' w μ', sx_choice a1 a2 σ = some (v, σ') ∧ sm_choice a1 a2 μ = some (w, μ') ∧ True ∧ I (j + 1) σ' μ'
def Ok_29 (I : Nat → XS → MS → Prop) (j : Nat) : Prop := ∀ (a1 : Int64) (a3 : Int32) (σ : XS) (μ : MS), I j σ μ → ∃ v σ' w μ', sx_drawn a1 a3 σ = some (v, σ') ∧ sm_drawn a1 a3 μ = some (w, μ') ∧ True ∧ I (j + 1) σ' μ'
def Ok_30 (I : Nat → XS → MS → Prop) (j : Nat) : Prop := ∀ (a1 : Int32) (a2 : Int32) (σ : XS) (μ : MS), I j σ μ → ∃ v σ' w μ', sx_share a1 a2 σ = some (v, σ') ∧ sm_share a1 a2 μ = some (w, μ') ∧ True ∧ I (j + 1) σ' μ'
def Ok_31 (I : Nat → XS → MS → Prop) (j : Nat) : Prop := ∀ (a1 : Int32) (σ : XS) (μ : MS), I j σ μ → ∃ v σ' w μ', sx_count a1 σ = some (v, σ') ∧ sm_count a1 μ = some (w, μ') ∧ v = w ∧ I (j + 1) σ' μ'
def OkAll (I : Nat → XS → MS → Prop) (j : Nat) : Prop := Ok_0 I j ∧ Ok_1 I j ∧ Ok_2 I j ∧ Ok_3 I j ∧ Ok_4 I j ∧ Ok_5 I j ∧ Ok_6 I j ∧ Ok_7 I j ∧ Ok_8 I j ∧ Ok_9 I j ∧ Ok_10 I j ∧ Ok_11 I j ∧ Ok_12 I j ∧ Ok_13 I j ∧ Ok_14 I j ∧ Ok_15 I j ∧ Ok_16 I j ∧ Ok_17 I j ∧ Ok_18 I j ∧ Ok_19 I j ∧ Ok_20 I j ∧ Ok_21 I j ∧ Ok_22 I j ∧ Ok_23 I j ∧ Ok_24 I j ∧ Ok_25 I j ∧ Ok_26 I j ∧ Ok_27 I j ∧ Ok_28 I j ∧ Ok_29 I j ∧ Ok_30 I j ∧ Ok_31 I j
theorem le_loop {L j : Nat} (hL : L < 2 ^ 20) (hj : 5 * j < 2 ^ 20) : (nI L - 5 < nI (5 * j)) ↔ L < 5 * j + 5 := by
  have h1 : (nI L - 5).toInt = (L : Int) - 5 := pk_sub_toInt (b := 5) (by omega) (by decide)
  have h2 : (nI (5 * j)).toInt = ((5 * j : Nat) : Int) := nI_toInt (by omega)
  rw [Int32.lt_iff_toInt_lt, h1, h2]
  omega
set_option maxRecDepth 100000 in
set_option maxHeartbeats 2000000 in
theorem law_loop {X : XT} {cA : Nat → ClassId} {b L : Nat} {xs : Nat → Int32} (C : Cx X cL_law RL (some .boolean) cA 2048 84000 4) (E : Sx X b L xs) (hL : L < 2 ^ 31) (qx qm : Nat → Nat) (I : Nat → XS → MS → Prop) (hLN : L ≤ 2560) (hc : 600000 ≤ (x_R X).cells ∧ 7302249 ≤ (x_R X).slots) (H : ∀ j, 5 * j + 5 ≤ L → OkAll I j)
    (hret : ∀ (kk nn : Nat) (ws : va_W) (lv : List (Nat × Value)), kk ≤ 600000 → nn ≤ 7302249 → Go X 4 kk nn 1036 ws lv []) : ∀ (m j : Nat) (σ : XS) (μ : MS) (zs zt : Value) (SS TT : va_W) (kk nn : Nat), L < 5 * j + 5 * m → 5 * j ≤ L → I j σ μ → HS cA σ zs SS → HT cA qx σ zt TT → kk ≤ 1000 + 50 * j → nn ≤ 100000 + 8000 * j → Go X 4 kk nn 18 (PW cA qx qm zs zt σ μ ++ (SS ++ TT)) [(0, .ref b), (1, .ref (qx 0)), (2, .ref (qm 0)), (3, .int (nI (5 * j)))] [] := by
  intro m
  induction m with
  | zero => intro j σ μ zs zt SS TT kk nn h1 h2; omega
  | succ m ih =>
    intro j σ μ zs zt SS TT kk nn h1 h2 hI hs ht hkk hnn
    refine g_iload_n C 18 3 dL_law_18 rfl rfl ?_
    refine g_aload_n C 19 0 dL_law_19 rfl rfl ?_
    refine g_slen C 20 E dL_law_20 ?_
    refine g_iconst C 21 (5 : Int32) dL_law_21 (by decide) ?_
    refine g_isub C 22 dL_law_22 ?_
    by_cases hj : 5 * j + 5 ≤ L
    · refine g_icmp_gt C 23 1036 dL_law_23 (by decide) (if_neg (fun h => by rw [le_loop (by omega) (by omega)] at h; omega) : (if nI L - 5 < nI (5 * j) then none else some ()) = some ()) (fun h => by cases h) (fun _ => ?_)
      have hk : kk + 50 ≤ (x_R X).cells ∧ nn + 8000 ≤ (x_R X).slots := ⟨by omega, by omega⟩
      have fin : ∀ (σ' : XS) (μ' : MS), I (j + 1) σ' μ' → ∀ (zs' zt' : Value) (SS' TT' : va_W) (kk' nn' : Nat), HS cA σ' zs' SS' → HT cA qx σ' zt' TT' → kk' ≤ kk + 50 → nn' ≤ nn + 8000 → Go X 4 kk' nn' 1030 (PW cA qx qm zs' zt' σ' μ' ++ (SS' ++ TT')) [(0, .ref b), (1, .ref (qx 0)), (2, .ref (qm 0)), (3, .int (nI (5 * j)))] [] := by
        intro σ' μ' hI' zs' zt' SS' TT' kk' nn' hs' ht' hk' hn'
        refine g_iinc C 1030 3 (v := nI (5 * j) + (5 : Int32)) (fun z => [(3, .int z), (0, .ref b), (1, .ref (qx 0)), (2, .ref (qm 0))]) dL_law_1030 rfl rfl (by decide) (fun _ => rfl) (rfl : bnd (nI (5 * j) + (5 : Int32)) some = some (nI (5 * j) + 5)) (fun z hz => ?_)
        cases hz
        refine g_goto C 1033 18 dL_law_1033 (by decide) ?_
        refine g_lv [1, 2, 3, 0] rfl ?_
        have e : nI (5 * j) + (5 : Int32) = nI (5 * (j + 1)) := nI_add (5 * j) 5
        rw [e]
        exact ih (j + 1) σ' μ' zs' zt' SS' TT' kk' nn' (by omega) (by omega) hI' hs' ht' (by omega) (by omega)
      refine g_aload_n C 26 0 dL_law_26 rfl rfl ?_
      refine g_iload_n C 27 3 dL_law_27 rfl rfl ?_
      refine g_sld C 28 E (5 * j) dL_law_28 rfl (by omega) hL ?_
      refine g_bipush C 29 (31 : Int32) dL_law_29 (by decide) ?_
      refine g_iand C 31 dL_law_31 ?_
      obtain ⟨t, ht32, hxt⟩ := pk_andE (xs (5 * j)) (m := 31) 5 (by decide)
      obtain ⟨H0, H1, H2, H3, H4, H5, H6, H7, H8, H9, H10, H11, H12, H13, H14, H15, H16, H17, H18, H19, H20, H21, H22, H23, H24, H25, H26, H27, H28, H29, H30, H31⟩ := H j hj
      match t, ht32, hxt with
      | 0, _, hxt =>
        refine g_tsw C 32 176 dL_law_32 (v := nI 0) hxt (by decide) (by decide) rfl (by decide) ?_
        obtain ⟨v, σ', w, μ', hx, hm, -, hI'⟩ := H0 (xs (5 * j + 1)) σ μ hI
        exact op_0 C E hL qx qm j hj zs zt SS TT kk nn hk σ σ' μ μ' hs ht v w hx hm  (fun zs' zt' SS' TT' kk' nn' a b c d => fin σ' μ' hI' zs' zt' SS' TT' kk' nn' a b c d)
      | 1, _, hxt =>
        refine g_tsw C 32 199 dL_law_32 (v := nI 1) hxt (by decide) (by decide) rfl (by decide) ?_
        obtain ⟨v, σ', w, μ', hx, hm, -, hI'⟩ := H1 (xs (5 * j + 1)) (xs (5 * j + 2)) (xs (5 * j + 3)) σ μ hI
        exact op_1 C E hL qx qm j hj zs zt SS TT kk nn hk σ σ' μ μ' hs ht v w hx hm  (fun zs' zt' SS' TT' kk' nn' a b c d => fin σ' μ' hI' zs' zt' SS' TT' kk' nn' a b c d)
      | 2, _, hxt =>
        refine g_tsw C 32 242 dL_law_32 (v := nI 2) hxt (by decide) (by decide) rfl (by decide) ?_
        obtain ⟨v, σ', w, μ', hx, hm, -, hI'⟩ := H2 (xs (5 * j + 1)) (xs (5 * j + 2)) σ μ hI
        exact op_2 C E hL qx qm j hj zs zt SS TT kk nn hk σ σ' μ μ' hs ht v w hx hm  (fun zs' zt' SS' TT' kk' nn' a b c d => fin σ' μ' hI' zs' zt' SS' TT' kk' nn' a b c d)
      | 3, _, hxt =>
        refine g_tsw C 32 275 dL_law_32 (v := nI 3) hxt (by decide) (by decide) rfl (by decide) ?_
        obtain ⟨v, σ', w, μ', hx, hm, -, hI'⟩ := H3 (xs (5 * j + 1)) (xs (5 * j + 2)) σ μ hI
        exact op_3 C E hL qx qm j hj zs zt SS TT kk nn hk σ σ' μ μ' hs ht v w hx hm  (fun zs' zt' SS' TT' kk' nn' a b c d => fin σ' μ' hI' zs' zt' SS' TT' kk' nn' a b c d)
      | 4, _, hxt =>
        refine g_tsw C 32 308 dL_law_32 (v := nI 4) hxt (by decide) (by decide) rfl (by decide) ?_
        obtain ⟨v, σ', w, μ', hx, hm, -, hI'⟩ := H4 (xs (5 * j + 1)) (xs (5 * j + 2)) σ μ hI
        exact op_4 C E hL qx qm j hj zs zt SS TT kk nn hk σ σ' μ μ' hs ht v w hx hm  (fun zs' zt' SS' TT' kk' nn' a b c d => fin σ' μ' hI' zs' zt' SS' TT' kk' nn' a b c d)
      | 5, _, hxt =>
        refine g_tsw C 32 341 dL_law_32 (v := nI 5) hxt (by decide) (by decide) rfl (by decide) ?_
        obtain ⟨v, σ', w, μ', hx, hm, -, hI'⟩ := H5 (xs (5 * j + 1)) σ μ hI
        exact op_5 C E hL qx qm j hj zs zt SS TT kk nn hk σ σ' μ μ' hs ht v w hx hm  (fun zs' zt' SS' TT' kk' nn' a b c d => fin σ' μ' hI' zs' zt' SS' TT' kk' nn' a b c d)
      | 6, _, hxt =>
        refine g_tsw C 32 364 dL_law_32 (v := nI 6) hxt (by decide) (by decide) rfl (by decide) ?_
        obtain ⟨v, σ', w, μ', hx, hm, -, hI'⟩ := H6 (xs (5 * j + 1)) σ μ hI
        exact op_6 C E hL qx qm j hj zs zt SS TT kk nn hk σ σ' μ μ' hs ht v w hx hm  (fun zs' zt' SS' TT' kk' nn' a b c d => fin σ' μ' hI' zs' zt' SS' TT' kk' nn' a b c d)
      | 7, _, hxt =>
        refine g_tsw C 32 387 dL_law_32 (v := nI 7) hxt (by decide) (by decide) rfl (by decide) ?_
        obtain ⟨v, σ', w, μ', hx, hm, -, hI'⟩ := H7  σ μ hI
        exact op_7 C E hL qx qm j hj zs zt SS TT kk nn hk σ σ' μ μ' hs ht v w hx hm  (fun zs' zt' SS' TT' kk' nn' a b c d => fin σ' μ' hI' zs' zt' SS' TT' kk' nn' a b c d)
      | 8, _, hxt =>
        refine g_tsw C 32 400 dL_law_32 (v := nI 8) hxt (by decide) (by decide) rfl (by decide) ?_
        obtain ⟨v, σ', w, μ', hx, hm, -, hI'⟩ := H8  σ μ hI
        exact op_8 C E hL qx qm j hj zs zt SS TT kk nn hk σ σ' μ μ' hs ht v w hx hm  (fun zs' zt' SS' TT' kk' nn' a b c d => fin σ' μ' hI' zs' zt' SS' TT' kk' nn' a b c d)
      | 9, _, hxt =>
        refine g_tsw C 32 413 dL_law_32 (v := nI 9) hxt (by decide) (by decide) rfl (by decide) ?_
        obtain ⟨v, σ', w, μ', hx, hm, -, hI'⟩ := H9  σ μ hI
        exact op_9 C E hL qx qm j hj zs zt SS TT kk nn hk σ σ' μ μ' hs ht v w hx hm  (fun zs' zt' SS' TT' kk' nn' a b c d => fin σ' μ' hI' zs' zt' SS' TT' kk' nn' a b c d)
      | 10, _, hxt =>
        refine g_tsw C 32 426 dL_law_32 (v := nI 10) hxt (by decide) (by decide) rfl (by decide) ?_
        obtain ⟨v, σ', w, μ', hx, hm, -, hI'⟩ := H10  σ μ hI
        exact op_10 C E hL qx qm j hj zs zt SS TT kk nn hk σ σ' μ μ' hs ht v w hx hm  (fun zs' zt' SS' TT' kk' nn' a b c d => fin σ' μ' hI' zs' zt' SS' TT' kk' nn' a b c d)
      | 11, _, hxt =>
        refine g_tsw C 32 439 dL_law_32 (v := nI 11) hxt (by decide) (by decide) rfl (by decide) ?_
        obtain ⟨v, σ', w, μ', hx, hm, -, hI'⟩ := H11  σ μ hI
        exact op_11 C E hL qx qm j hj zs zt SS TT kk nn hk σ σ' μ μ' hs ht v w hx hm  (fun zs' zt' SS' TT' kk' nn' a b c d => fin σ' μ' hI' zs' zt' SS' TT' kk' nn' a b c d)
      | 12, _, hxt =>
        refine g_tsw C 32 452 dL_law_32 (v := nI 12) hxt (by decide) (by decide) rfl (by decide) ?_
        obtain ⟨v, σ', w, μ', hx, hm, -, hI'⟩ := H12 (xs (5 * j + 1)) σ μ hI
        exact op_12 C E hL qx qm j hj zs zt SS TT kk nn hk σ σ' μ μ' hs ht v w hx hm  (fun zs' zt' SS' TT' kk' nn' a b c d => fin σ' μ' hI' zs' zt' SS' TT' kk' nn' a b c d)
      | 13, _, hxt =>
        refine g_tsw C 32 475 dL_law_32 (v := nI 13) hxt (by decide) (by decide) rfl (by decide) ?_
        obtain ⟨v, σ', w, μ', hx, hm, -, hI'⟩ := H13  σ μ hI
        exact op_13 C E hL qx qm j hj zs zt SS TT kk nn hk σ σ' μ μ' hs ht v w hx hm  (fun zs' zt' SS' TT' kk' nn' a b c d => fin σ' μ' hI' zs' zt' SS' TT' kk' nn' a b c d)
      | 14, _, hxt =>
        refine g_tsw C 32 488 dL_law_32 (v := nI 14) hxt (by decide) (by decide) rfl (by decide) ?_
        obtain ⟨v, σ', w, μ', hx, hm, -, hI'⟩ := H14  σ μ hI
        exact op_14 C E hL qx qm j hj zs zt SS TT kk nn hk σ σ' μ μ' hs ht v w hx hm  (fun zs' zt' SS' TT' kk' nn' a b c d => fin σ' μ' hI' zs' zt' SS' TT' kk' nn' a b c d)
      | 15, _, hxt =>
        refine g_tsw C 32 501 dL_law_32 (v := nI 15) hxt (by decide) (by decide) rfl (by decide) ?_
        obtain ⟨v, σ', w, μ', hx, hm, -, hI'⟩ := H15 (xs (5 * j + 1)) σ μ hI
        exact op_15 C E hL qx qm j hj zs zt SS TT kk nn hk σ σ' μ μ' hs ht v w hx hm  (fun zs' zt' SS' TT' kk' nn' a b c d => fin σ' μ' hI' zs' zt' SS' TT' kk' nn' a b c d)
      | 16, _, hxt =>
        refine g_tsw C 32 524 dL_law_32 (v := nI 16) hxt (by decide) (by decide) rfl (by decide) ?_
        obtain ⟨v, σ', w, μ', hx, hm, -, hI'⟩ := H16 (xs (5 * j + 1)) (xs (5 * j + 2)) σ μ hI
        exact op_16 C E hL qx qm j hj zs zt SS TT kk nn hk σ σ' μ μ' hs ht v w hx hm  (fun zs' zt' SS' TT' kk' nn' a b c d => fin σ' μ' hI' zs' zt' SS' TT' kk' nn' a b c d)
      | 17, _, hxt =>
        refine g_tsw C 32 557 dL_law_32 (v := nI 17) hxt (by decide) (by decide) rfl (by decide) ?_
        obtain ⟨v, σ', w, μ', hx, hm, -, hI'⟩ := H17 (xs (5 * j + 1)) (xs (5 * j + 2)) σ μ hI
        exact op_17 C E hL qx qm j hj zs zt SS TT kk nn hk σ σ' μ μ' hs ht v w hx hm  (fun zs' zt' SS' TT' kk' nn' a b c d => fin σ' μ' hI' zs' zt' SS' TT' kk' nn' a b c d)
      | 18, _, hxt =>
        refine g_tsw C 32 590 dL_law_32 (v := nI 18) hxt (by decide) (by decide) rfl (by decide) ?_
        obtain ⟨v, σ', w, μ', hx, hm, -, hI'⟩ := H18  σ μ hI
        exact op_18 C E hL qx qm j hj zs zt SS TT kk nn hk σ σ' μ μ' hs ht v w hx hm  (fun zs' zt' SS' TT' kk' nn' a b c d => fin σ' μ' hI' zs' zt' SS' TT' kk' nn' a b c d)
      | 19, _, hxt =>
        refine g_tsw C 32 603 dL_law_32 (v := nI 19) hxt (by decide) (by decide) rfl (by decide) ?_
        obtain ⟨v, σ', w, μ', hx, hm, -, hI'⟩ := H19  σ μ hI
        exact op_19 C E hL qx qm j hj zs zt SS TT kk nn hk σ σ' μ μ' hs ht v w hx hm  (fun zs' zt' SS' TT' kk' nn' a b c d => fin σ' μ' hI' zs' zt' SS' TT' kk' nn' a b c d)
      | 20, _, hxt =>
        refine g_tsw C 32 616 dL_law_32 (v := nI 20) hxt (by decide) (by decide) rfl (by decide) ?_
        obtain ⟨v, σ', w, μ', hx, hm, -, hI'⟩ := H20  σ μ hI
        exact op_20 C E hL qx qm j hj zs zt SS TT kk nn hk σ σ' μ μ' hs ht v w hx hm  (fun zs' zt' SS' TT' kk' nn' a b c d => fin σ' μ' hI' zs' zt' SS' TT' kk' nn' a b c d)
      | 21, _, hxt =>
        refine g_tsw C 32 629 dL_law_32 (v := nI 21) hxt (by decide) (by decide) rfl (by decide) ?_
        obtain ⟨v, σ', w, μ', hx, hm, -, hI'⟩ := H21 (xs (5 * j + 1)) σ μ hI
        exact op_21 C E hL qx qm j hj zs zt SS TT kk nn hk σ σ' μ μ' hs ht v w hx hm  (fun zs' zt' SS' TT' kk' nn' a b c d => fin σ' μ' hI' zs' zt' SS' TT' kk' nn' a b c d)
      | 22, _, hxt =>
        refine g_tsw C 32 652 dL_law_32 (v := nI 22) hxt (by decide) (by decide) rfl (by decide) ?_
        obtain ⟨v, σ', w, μ', hx, hm, -, hI'⟩ := H22 (xs (5 * j + 1)) (xs (5 * j + 2)) σ μ hI
        exact op_22 C E hL qx qm j hj zs zt SS TT kk nn hk σ σ' μ μ' hs ht v w hx hm  (fun zs' zt' SS' TT' kk' nn' a b c d => fin σ' μ' hI' zs' zt' SS' TT' kk' nn' a b c d)
      | 23, _, hxt =>
        refine g_tsw C 32 685 dL_law_32 (v := nI 23) hxt (by decide) (by decide) rfl (by decide) ?_
        obtain ⟨v, σ', w, μ', hx, hm, -, hI'⟩ := H23 (xs (5 * j + 1)) (xs (5 * j + 2)) (xs (5 * j + 3)) (xs (5 * j + 4)) σ μ hI
        exact op_23 C E hL qx qm j hj zs zt SS TT kk nn hk σ σ' μ μ' hs ht v w hx hm  (fun zs' zt' SS' TT' kk' nn' a b c d => fin σ' μ' hI' zs' zt' SS' TT' kk' nn' a b c d)
      | 24, _, hxt =>
        refine g_tsw C 32 738 dL_law_32 (v := nI 24) hxt (by decide) (by decide) rfl (by decide) ?_
        obtain ⟨v, σ', w, μ', hx, hm, -, hI'⟩ := H24 (xs (5 * j + 1)) (xs (5 * j + 2)) σ μ hI
        exact op_24 C E hL qx qm j hj zs zt SS TT kk nn hk σ σ' μ μ' hs ht v w hx hm  (fun zs' zt' SS' TT' kk' nn' a b c d => fin σ' μ' hI' zs' zt' SS' TT' kk' nn' a b c d)
      | 25, _, hxt =>
        refine g_tsw C 32 771 dL_law_32 (v := nI 25) hxt (by decide) (by decide) rfl (by decide) ?_
        obtain ⟨v, σ', w, μ', hx, hm, -, hI'⟩ := H25  σ μ hI
        exact op_25 C E hL qx qm j hj zs zt SS TT kk nn hk σ σ' μ μ' hs ht v w hx hm  (fun zs' zt' SS' TT' kk' nn' a b c d => fin σ' μ' hI' zs' zt' SS' TT' kk' nn' a b c d)
      | 26, _, hxt =>
        refine g_tsw C 32 784 dL_law_32 (v := nI 26) hxt (by decide) (by decide) rfl (by decide) ?_
        by_cases hb : xs (5 * j + 1) = 0
        · obtain ⟨v, σ', w, μ', hx, hm, -, hI'⟩ := H26 (0 : Int32) σ μ (by decide) hI
          exact op_26_0 C E hL qx qm j hj zs zt SS TT kk nn hk σ σ' μ μ' hs ht hb v w hx hm  (fun zs' zt' SS' TT' kk' nn' a b c d => fin σ' μ' hI' zs' zt' SS' TT' kk' nn' a b c d)
        · obtain ⟨v, σ', w, μ', hx, hm, -, hI'⟩ := H26 (1 : Int32) σ μ (by decide) hI
          exact op_26_1 C E hL qx qm j hj zs zt SS TT kk nn hk σ σ' μ μ' hs ht hb v w hx hm  (fun zs' zt' SS' TT' kk' nn' a b c d => fin σ' μ' hI' zs' zt' SS' TT' kk' nn' a b c d)
      | 27, _, hxt =>
        refine g_tsw C 32 823 dL_law_32 (v := nI 27) hxt (by decide) (by decide) rfl (by decide) ?_
        by_cases hb : xs (5 * j + 1) = 0
        · obtain ⟨v, σ', w, μ', hx, hm, -, hI'⟩ := H27 (0 : Int32) σ μ (by decide) hI
          exact op_27_0 C E hL qx qm j hj zs zt SS TT kk nn hk σ σ' μ μ' hs ht hb v w hx hm  (fun zs' zt' SS' TT' kk' nn' a b c d => fin σ' μ' hI' zs' zt' SS' TT' kk' nn' a b c d)
        · obtain ⟨v, σ', w, μ', hx, hm, -, hI'⟩ := H27 (1 : Int32) σ μ (by decide) hI
          exact op_27_1 C E hL qx qm j hj zs zt SS TT kk nn hk σ σ' μ μ' hs ht hb v w hx hm  (fun zs' zt' SS' TT' kk' nn' a b c d => fin σ' μ' hI' zs' zt' SS' TT' kk' nn' a b c d)
      | 28, _, hxt =>
        refine g_tsw C 32 862 dL_law_32 (v := nI 28) hxt (by decide) (by decide) rfl (by decide) ?_
        by_cases hb : xs (5 * j + 1) = 0
        · obtain ⟨v, σ', w, μ', hx, hm, -, hI'⟩ := H28 (0 : Int32) (xs (5 * j + 2)) σ μ (by decide) hI
          exact op_28_0 C E hL qx qm j hj zs zt SS TT kk nn hk σ σ' μ μ' hs ht hb v w hx hm  (fun zs' zt' SS' TT' kk' nn' a b c d => fin σ' μ' hI' zs' zt' SS' TT' kk' nn' a b c d)
        · obtain ⟨v, σ', w, μ', hx, hm, -, hI'⟩ := H28 (1 : Int32) (xs (5 * j + 2)) σ μ (by decide) hI
          exact op_28_1 C E hL qx qm j hj zs zt SS TT kk nn hk σ σ' μ μ' hs ht hb v w hx hm  (fun zs' zt' SS' TT' kk' nn' a b c d => fin σ' μ' hI' zs' zt' SS' TT' kk' nn' a b c d)
      | 29, _, hxt =>
        refine g_tsw C 32 911 dL_law_32 (v := nI 29) hxt (by decide) (by decide) rfl (by decide) ?_
        obtain ⟨v, σ', w, μ', hx, hm, -, hI'⟩ := H29 (((xs (5 * j + 1)).toInt64 <<< ((32 : Int32).toInt64 &&& 63)) ||| ((xs (5 * j + 2)).toInt64 &&& (4294967295 : Int64))) (xs (5 * j + 3)) σ μ hI
        exact op_29 C E hL qx qm j hj zs zt SS TT kk nn hk σ σ' μ μ' hs ht v w hx hm  (fun zs' zt' SS' TT' kk' nn' a b c d => fin σ' μ' hI' zs' zt' SS' TT' kk' nn' a b c d)
      | 30, _, hxt =>
        refine g_tsw C 32 974 dL_law_32 (v := nI 30) hxt (by decide) (by decide) rfl (by decide) ?_
        obtain ⟨v, σ', w, μ', hx, hm, -, hI'⟩ := H30 (xs (5 * j + 1)) (xs (5 * j + 2)) σ μ hI
        exact op_30 C E hL qx qm j hj zs zt SS TT kk nn hk σ σ' μ μ' hs ht v w hx hm  (fun zs' zt' SS' TT' kk' nn' a b c d => fin σ' μ' hI' zs' zt' SS' TT' kk' nn' a b c d)
      | 31, _, hxt =>
        refine g_tsw C 32 1007 dL_law_32 (v := nI 31) hxt (by decide) (by decide) rfl (by decide) ?_
        obtain ⟨v, σ', w, μ', hx, hm, hvw, hI'⟩ := H31 (xs (5 * j + 1)) σ μ hI
        exact op_31 C E hL qx qm j hj zs zt SS TT kk nn hk σ σ' μ μ' hs ht v w hx hm hvw (fun zs' zt' SS' TT' kk' nn' a b c d => fin σ' μ' hI' zs' zt' SS' TT' kk' nn' a b c d)
      | t + 32, h, _ => exact absurd h (by omega)
    · refine g_icmp_gt C 23 1036 dL_law_23 (by decide) (if_pos (by rw [le_loop (by omega) (by omega)]; omega) : (if nI L - 5 < nI (5 * j) then some () else none) = some ()) (fun _ => ?_) (fun h => by cases h)
      exact hret kk nn _ _ (by omega) (by omega)
