theorem dX8_isWeight_0 : decode cX8_isWeight 0 = .ok (.iload_n 0, 1) := by decide +kernel
theorem dX8_isWeight_1 : decode cX8_isWeight 1 = .ok (.ifCond .lt 14, 3) := by decide +kernel
theorem dX8_isWeight_4 : decode cX8_isWeight 4 = .ok (.iload_n 0, 1) := by decide +kernel
theorem dX8_isWeight_5 : decode cX8_isWeight 5 = .ok (.sipush 1000, 3) := by decide +kernel
theorem dX8_isWeight_8 : decode cX8_isWeight 8 = .ok (.if_icmp .gt 7, 3) := by decide +kernel
theorem dX8_isWeight_11 : decode cX8_isWeight 11 = .ok (.iconst 1, 1) := by decide +kernel
theorem dX8_isWeight_12 : decode cX8_isWeight 12 = .ok (.goto 4, 3) := by decide +kernel
theorem dX8_isWeight_15 : decode cX8_isWeight 15 = .ok (.iconst 0, 1) := by decide +kernel
theorem dX8_isWeight_16 : decode cX8_isWeight 16 = .ok (.ireturn, 1) := by decide +kernel
theorem dX8_isFactor_0 : decode cX8_isFactor 0 = .ok (.iload_n 0, 1) := by decide +kernel
theorem dX8_isFactor_1 : decode cX8_isFactor 1 = .ok (.bipush (-10), 2) := by decide +kernel
theorem dX8_isFactor_3 : decode cX8_isFactor 3 = .ok (.if_icmp .lt 13, 3) := by decide +kernel
theorem dX8_isFactor_6 : decode cX8_isFactor 6 = .ok (.iload_n 0, 1) := by decide +kernel
theorem dX8_isFactor_7 : decode cX8_isFactor 7 = .ok (.bipush 10, 2) := by decide +kernel
theorem dX8_isFactor_9 : decode cX8_isFactor 9 = .ok (.if_icmp .gt 7, 3) := by decide +kernel
theorem dX8_isFactor_12 : decode cX8_isFactor 12 = .ok (.iconst 1, 1) := by decide +kernel
theorem dX8_isFactor_13 : decode cX8_isFactor 13 = .ok (.goto 4, 3) := by decide +kernel
theorem dX8_isFactor_16 : decode cX8_isFactor 16 = .ok (.iconst 0, 1) := by decide +kernel
theorem dX8_isFactor_17 : decode cX8_isFactor 17 = .ok (.ireturn, 1) := by decide +kernel
theorem dX8_signOf_0 : decode cX8_signOf 0 = .ok (.iload_n 0, 1) := by decide +kernel
theorem dX8_signOf_1 : decode cX8_signOf 1 = .ok (.ifCond .eq 7, 3) := by decide +kernel
theorem dX8_signOf_4 : decode cX8_signOf 4 = .ok (.iconst 1, 1) := by decide +kernel
theorem dX8_signOf_5 : decode cX8_signOf 5 = .ok (.goto 4, 3) := by decide +kernel
theorem dX8_signOf_8 : decode cX8_signOf 8 = .ok (.iconst (-1), 1) := by decide +kernel
theorem dX8_signOf_9 : decode cX8_signOf 9 = .ok (.ireturn, 1) := by decide +kernel
theorem dX8_hasBit_0 : decode cX8_hasBit 0 = .ok (.iload_n 0, 1) := by decide +kernel
theorem dX8_hasBit_1 : decode cX8_hasBit 1 = .ok (.iload_n 1, 1) := by decide +kernel
theorem dX8_hasBit_2 : decode cX8_hasBit 2 = .ok (.ishr, 1) := by decide +kernel
theorem dX8_hasBit_3 : decode cX8_hasBit 3 = .ok (.iconst 1, 1) := by decide +kernel
theorem dX8_hasBit_4 : decode cX8_hasBit 4 = .ok (.iand, 1) := by decide +kernel
theorem dX8_hasBit_5 : decode cX8_hasBit 5 = .ok (.ifCond .eq 7, 3) := by decide +kernel
theorem dX8_hasBit_8 : decode cX8_hasBit 8 = .ok (.iconst 1, 1) := by decide +kernel
theorem dX8_hasBit_9 : decode cX8_hasBit 9 = .ok (.goto 4, 3) := by decide +kernel
theorem dX8_hasBit_12 : decode cX8_hasBit 12 = .ok (.iconst 0, 1) := by decide +kernel
theorem dX8_hasBit_13 : decode cX8_hasBit 13 = .ok (.ireturn, 1) := by decide +kernel
theorem dJ6_bitCount_0f7a4_0 : decode cJ6_bitCount_0f7a4 0 = .ok (.iload_n 0, 1) := by decide +kernel
theorem dJ6_bitCount_0f7a4_1 : decode cJ6_bitCount_0f7a4 1 = .ok (.iload_n 0, 1) := by decide +kernel
theorem dJ6_bitCount_0f7a4_2 : decode cJ6_bitCount_0f7a4 2 = .ok (.iconst 1, 1) := by decide +kernel
theorem dJ6_bitCount_0f7a4_3 : decode cJ6_bitCount_0f7a4 3 = .ok (.iushr, 1) := by decide +kernel
theorem dJ6_bitCount_0f7a4_4 : decode cJ6_bitCount_0f7a4 4 = .ok (.ldc_w 265, 3) := by decide +kernel
theorem dJ6_bitCount_0f7a4_7 : decode cJ6_bitCount_0f7a4 7 = .ok (.iand, 1) := by decide +kernel
theorem dJ6_bitCount_0f7a4_8 : decode cJ6_bitCount_0f7a4 8 = .ok (.isub, 1) := by decide +kernel
theorem dJ6_bitCount_0f7a4_9 : decode cJ6_bitCount_0f7a4 9 = .ok (.istore_n 0, 1) := by decide +kernel
theorem dJ6_bitCount_0f7a4_10 : decode cJ6_bitCount_0f7a4 10 = .ok (.iload_n 0, 1) := by decide +kernel
theorem dJ6_bitCount_0f7a4_11 : decode cJ6_bitCount_0f7a4 11 = .ok (.ldc_w 266, 3) := by decide +kernel
theorem dJ6_bitCount_0f7a4_14 : decode cJ6_bitCount_0f7a4 14 = .ok (.iand, 1) := by decide +kernel
theorem dJ6_bitCount_0f7a4_15 : decode cJ6_bitCount_0f7a4 15 = .ok (.iload_n 0, 1) := by decide +kernel
theorem dJ6_bitCount_0f7a4_16 : decode cJ6_bitCount_0f7a4 16 = .ok (.iconst 2, 1) := by decide +kernel
theorem dJ6_bitCount_0f7a4_17 : decode cJ6_bitCount_0f7a4 17 = .ok (.iushr, 1) := by decide +kernel
theorem dJ6_bitCount_0f7a4_18 : decode cJ6_bitCount_0f7a4 18 = .ok (.ldc_w 266, 3) := by decide +kernel
theorem dJ6_bitCount_0f7a4_21 : decode cJ6_bitCount_0f7a4 21 = .ok (.iand, 1) := by decide +kernel
theorem dJ6_bitCount_0f7a4_22 : decode cJ6_bitCount_0f7a4 22 = .ok (.iadd, 1) := by decide +kernel
theorem dJ6_bitCount_0f7a4_23 : decode cJ6_bitCount_0f7a4 23 = .ok (.istore_n 0, 1) := by decide +kernel
theorem dJ6_bitCount_0f7a4_24 : decode cJ6_bitCount_0f7a4 24 = .ok (.iload_n 0, 1) := by decide +kernel
theorem dJ6_bitCount_0f7a4_25 : decode cJ6_bitCount_0f7a4 25 = .ok (.iload_n 0, 1) := by decide +kernel
theorem dJ6_bitCount_0f7a4_26 : decode cJ6_bitCount_0f7a4 26 = .ok (.iconst 4, 1) := by decide +kernel
theorem dJ6_bitCount_0f7a4_27 : decode cJ6_bitCount_0f7a4 27 = .ok (.iushr, 1) := by decide +kernel
theorem dJ6_bitCount_0f7a4_28 : decode cJ6_bitCount_0f7a4 28 = .ok (.iadd, 1) := by decide +kernel
theorem dJ6_bitCount_0f7a4_29 : decode cJ6_bitCount_0f7a4 29 = .ok (.ldc_w 267, 3) := by decide +kernel
theorem dJ6_bitCount_0f7a4_32 : decode cJ6_bitCount_0f7a4 32 = .ok (.iand, 1) := by decide +kernel
theorem dJ6_bitCount_0f7a4_33 : decode cJ6_bitCount_0f7a4 33 = .ok (.istore_n 0, 1) := by decide +kernel
theorem dJ6_bitCount_0f7a4_34 : decode cJ6_bitCount_0f7a4 34 = .ok (.iload_n 0, 1) := by decide +kernel
theorem dJ6_bitCount_0f7a4_35 : decode cJ6_bitCount_0f7a4 35 = .ok (.iload_n 0, 1) := by decide +kernel
theorem dJ6_bitCount_0f7a4_36 : decode cJ6_bitCount_0f7a4 36 = .ok (.bipush 8, 2) := by decide +kernel
theorem dJ6_bitCount_0f7a4_38 : decode cJ6_bitCount_0f7a4 38 = .ok (.iushr, 1) := by decide +kernel
theorem dJ6_bitCount_0f7a4_39 : decode cJ6_bitCount_0f7a4 39 = .ok (.iadd, 1) := by decide +kernel
theorem dJ6_bitCount_0f7a4_40 : decode cJ6_bitCount_0f7a4 40 = .ok (.istore_n 0, 1) := by decide +kernel
theorem dJ6_bitCount_0f7a4_41 : decode cJ6_bitCount_0f7a4 41 = .ok (.iload_n 0, 1) := by decide +kernel
theorem dJ6_bitCount_0f7a4_42 : decode cJ6_bitCount_0f7a4 42 = .ok (.iload_n 0, 1) := by decide +kernel
theorem dJ6_bitCount_0f7a4_43 : decode cJ6_bitCount_0f7a4 43 = .ok (.bipush 16, 2) := by decide +kernel
theorem dJ6_bitCount_0f7a4_45 : decode cJ6_bitCount_0f7a4 45 = .ok (.iushr, 1) := by decide +kernel
theorem dJ6_bitCount_0f7a4_46 : decode cJ6_bitCount_0f7a4 46 = .ok (.iadd, 1) := by decide +kernel
theorem dJ6_bitCount_0f7a4_47 : decode cJ6_bitCount_0f7a4 47 = .ok (.istore_n 0, 1) := by decide +kernel
theorem dJ6_bitCount_0f7a4_48 : decode cJ6_bitCount_0f7a4 48 = .ok (.iload_n 0, 1) := by decide +kernel
theorem dJ6_bitCount_0f7a4_49 : decode cJ6_bitCount_0f7a4 49 = .ok (.bipush 63, 2) := by decide +kernel
theorem dJ6_bitCount_0f7a4_51 : decode cJ6_bitCount_0f7a4 51 = .ok (.iand, 1) := by decide +kernel
theorem dJ6_bitCount_0f7a4_52 : decode cJ6_bitCount_0f7a4 52 = .ok (.ireturn, 1) := by decide +kernel
theorem dJ7_fill_d0a16_0 : decode cJ7_fill_d0a16 0 = .ok (.iconst 0, 1) := by decide +kernel
theorem dJ7_fill_d0a16_1 : decode cJ7_fill_d0a16 1 = .ok (.istore_n 3, 1) := by decide +kernel
theorem dJ7_fill_d0a16_2 : decode cJ7_fill_d0a16 2 = .ok (.aload_n 0, 1) := by decide +kernel
theorem dJ7_fill_d0a16_3 : decode cJ7_fill_d0a16 3 = .ok (.arraylength, 1) := by decide +kernel
theorem dJ7_fill_d0a16_4 : decode cJ7_fill_d0a16 4 = .ok (.istore 4, 2) := by decide +kernel
theorem dJ7_fill_d0a16_6 : decode cJ7_fill_d0a16 6 = .ok (.iload_n 3, 1) := by decide +kernel
theorem dJ7_fill_d0a16_7 : decode cJ7_fill_d0a16 7 = .ok (.iload 4, 2) := by decide +kernel
theorem dJ7_fill_d0a16_9 : decode cJ7_fill_d0a16 9 = .ok (.if_icmp .ge 13, 3) := by decide +kernel
theorem dJ7_fill_d0a16_12 : decode cJ7_fill_d0a16 12 = .ok (.aload_n 0, 1) := by decide +kernel
theorem dJ7_fill_d0a16_13 : decode cJ7_fill_d0a16 13 = .ok (.iload_n 3, 1) := by decide +kernel
theorem dJ7_fill_d0a16_14 : decode cJ7_fill_d0a16 14 = .ok (.lload_n 1, 1) := by decide +kernel
theorem dJ7_fill_d0a16_15 : decode cJ7_fill_d0a16 15 = .ok (.lastore, 1) := by decide +kernel
theorem dJ7_fill_d0a16_16 : decode cJ7_fill_d0a16 16 = .ok (.iinc 3 1, 3) := by decide +kernel
theorem dJ7_fill_d0a16_19 : decode cJ7_fill_d0a16 19 = .ok (.goto (-13), 3) := by decide +kernel
theorem dJ7_fill_d0a16_22 : decode cJ7_fill_d0a16 22 = .ok (.return_, 1) := by decide +kernel
def f_X8_hasBit (a0 : Int32) (a1 : Int32) : Option (Int32) :=
  if ((a0 >>> (a1 &&& 31)) &&& (1 : Int32)) = 0 then
    some ((0 : Int32))
  else
    some ((1 : Int32))

set_option maxRecDepth 100000 in
set_option maxHeartbeats 1000000 in
theorem c_X8_hasBit (l : Launch) (cA : Nat → ClassId)   (a0 : Int32) (a1 : Int32) (r : Int32) (hf : f_X8_hasBit a0 a1 = some r) : MT l cA yX8_hasBit cX8_hasBit 2 (some .boolean) ({ frames := 0, cells := 0, slots := 0, locals := 0 } : Room) [.int a0, .int a1] [] (sB (some (.int r)) []) := by
  refine MT.of (by decide) (Nat.le_of_ble_eq_true rfl) ?_
  intro X hXl C F hnm hrc hrs
  subst hXl
  have hk : 0 ≤ (x_R X).cells ∧ 0 ≤ (x_R X).slots := ⟨Nat.zero_le _, Nat.zero_le _⟩
  have hB : (sB (some (.int r)) []) (some (.int r)) [] := ⟨rfl, rfl⟩
  unfold f_X8_hasBit at hf
  have C : Cx X cX8_hasBit RX8 (some .boolean) cA 0 0 2 := C
  show Go X 2 0 0 0 [] [(0, .int a0), (1, .int a1)] []
  refine g_iload_n C 0 0 dX8_hasBit_0 rfl rfl ?_
  refine g_iload_n C 1 1 dX8_hasBit_1 rfl rfl ?_
  refine g_ishr C 2 dX8_hasBit_2 ?_
  refine g_iconst C 3 (1 : Int32) dX8_hasBit_3 (by decide) ?_
  refine g_iand C 4 dX8_hasBit_4 ?_
  refine g_if_eq C 5 12 dX8_hasBit_5 (by decide) hf (fun hf => ?_) (fun hf => ?_)
  · refine g_iconst C 12 (0 : Int32) dX8_hasBit_12 (by decide) ?_
    cases hf
    exact g_zret C 13 dX8_hasBit_13 (by decide) F hB
  · refine g_iconst C 8 (1 : Int32) dX8_hasBit_8 (by decide) ?_
    refine g_goto C 9 13 dX8_hasBit_9 (by decide) ?_
    cases hf
    exact g_zret C 13 dX8_hasBit_13 (by decide) F hB

def f_J6_bitCount_0f7a4 (a0 : Int32) : Option (Int32) :=
  bnd (a0 - ((((a0).toUInt32 >>> (((1 : Int32)).toUInt32 &&& Int32.toUInt32 31)).toInt32) &&& (1431655765 : Int32))) fun x0_1 =>
  bnd ((x0_1 &&& (858993459 : Int32)) + ((((x0_1).toUInt32 >>> (((2 : Int32)).toUInt32 &&& Int32.toUInt32 31)).toInt32) &&& (858993459 : Int32))) fun x0_2 =>
  bnd ((x0_2 + (((x0_2).toUInt32 >>> (((4 : Int32)).toUInt32 &&& Int32.toUInt32 31)).toInt32)) &&& (252645135 : Int32)) fun x0_3 =>
  bnd (x0_3 + (((x0_3).toUInt32 >>> (((8 : Int32)).toUInt32 &&& Int32.toUInt32 31)).toInt32)) fun x0_4 =>
  bnd (x0_4 + (((x0_4).toUInt32 >>> (((16 : Int32)).toUInt32 &&& Int32.toUInt32 31)).toInt32)) fun x0_5 =>
  some ((x0_5 &&& (63 : Int32)))

set_option maxRecDepth 100000 in
set_option maxHeartbeats 1000000 in
theorem c_J6_bitCount_0f7a4 (l : Launch) (cA : Nat → ClassId)   (a0 : Int32) (r : Int32) (hf : f_J6_bitCount_0f7a4 a0 = some r) : MT l cA yJ6_bitCount_0f7a4 cJ6_bitCount_0f7a4 1 (some .int) ({ frames := 0, cells := 0, slots := 0, locals := 0 } : Room) [.int a0] [] (sB (some (.int r)) []) := by
  refine MT.of (by decide) (Nat.le_of_ble_eq_true rfl) ?_
  intro X hXl C F hnm hrc hrs
  subst hXl
  have hk : 0 ≤ (x_R X).cells ∧ 0 ≤ (x_R X).slots := ⟨Nat.zero_le _, Nat.zero_le _⟩
  have hB : (sB (some (.int r)) []) (some (.int r)) [] := ⟨rfl, rfl⟩
  unfold f_J6_bitCount_0f7a4 at hf
  have C : Cx X cJ6_bitCount_0f7a4 RJ6 (some .int) cA 0 0 1 := C
  show Go X 1 0 0 0 [] [(0, .int a0)] []
  refine g_iload_n C 0 0 dJ6_bitCount_0f7a4_0 rfl rfl ?_
  refine g_iload_n C 1 0 dJ6_bitCount_0f7a4_1 rfl rfl ?_
  refine g_iconst C 2 (1 : Int32) dJ6_bitCount_0f7a4_2 (by decide) ?_
  refine g_iushr C 3 dJ6_bitCount_0f7a4_3 ?_
  refine g_ldcw C 4 dJ6_bitCount_0f7a4_4 kw_10 ?_
  refine g_iand C 7 dJ6_bitCount_0f7a4_7 ?_
  refine g_isub C 8 dJ6_bitCount_0f7a4_8 ?_
  refine g_istore_n C 9 (fun z => [(0, .int z)]) dJ6_bitCount_0f7a4_9 rfl (by decide) (fun _ => rfl) hf (fun x0_1 hf => ?_)
  refine g_iload_n C 10 0 dJ6_bitCount_0f7a4_10 rfl rfl ?_
  refine g_ldcw C 11 dJ6_bitCount_0f7a4_11 kw_11 ?_
  refine g_iand C 14 dJ6_bitCount_0f7a4_14 ?_
  refine g_iload_n C 15 0 dJ6_bitCount_0f7a4_15 rfl rfl ?_
  refine g_iconst C 16 (2 : Int32) dJ6_bitCount_0f7a4_16 (by decide) ?_
  refine g_iushr C 17 dJ6_bitCount_0f7a4_17 ?_
  refine g_ldcw C 18 dJ6_bitCount_0f7a4_18 kw_11 ?_
  refine g_iand C 21 dJ6_bitCount_0f7a4_21 ?_
  refine g_iadd C 22 dJ6_bitCount_0f7a4_22 ?_
  refine g_istore_n C 23 (fun z => [(0, .int z)]) dJ6_bitCount_0f7a4_23 rfl (by decide) (fun _ => rfl) hf (fun x0_2 hf => ?_)
  refine g_iload_n C 24 0 dJ6_bitCount_0f7a4_24 rfl rfl ?_
  refine g_iload_n C 25 0 dJ6_bitCount_0f7a4_25 rfl rfl ?_
  refine g_iconst C 26 (4 : Int32) dJ6_bitCount_0f7a4_26 (by decide) ?_
  refine g_iushr C 27 dJ6_bitCount_0f7a4_27 ?_
  refine g_iadd C 28 dJ6_bitCount_0f7a4_28 ?_
  refine g_ldcw C 29 dJ6_bitCount_0f7a4_29 kw_12 ?_
  refine g_iand C 32 dJ6_bitCount_0f7a4_32 ?_
  refine g_istore_n C 33 (fun z => [(0, .int z)]) dJ6_bitCount_0f7a4_33 rfl (by decide) (fun _ => rfl) hf (fun x0_3 hf => ?_)
  refine g_iload_n C 34 0 dJ6_bitCount_0f7a4_34 rfl rfl ?_
  refine g_iload_n C 35 0 dJ6_bitCount_0f7a4_35 rfl rfl ?_
  refine g_bipush C 36 (8 : Int32) dJ6_bitCount_0f7a4_36 (by decide) ?_
  refine g_iushr C 38 dJ6_bitCount_0f7a4_38 ?_
  refine g_iadd C 39 dJ6_bitCount_0f7a4_39 ?_
  refine g_istore_n C 40 (fun z => [(0, .int z)]) dJ6_bitCount_0f7a4_40 rfl (by decide) (fun _ => rfl) hf (fun x0_4 hf => ?_)
  refine g_iload_n C 41 0 dJ6_bitCount_0f7a4_41 rfl rfl ?_
  refine g_iload_n C 42 0 dJ6_bitCount_0f7a4_42 rfl rfl ?_
  refine g_bipush C 43 (16 : Int32) dJ6_bitCount_0f7a4_43 (by decide) ?_
  refine g_iushr C 45 dJ6_bitCount_0f7a4_45 ?_
  refine g_iadd C 46 dJ6_bitCount_0f7a4_46 ?_
  refine g_istore_n C 47 (fun z => [(0, .int z)]) dJ6_bitCount_0f7a4_47 rfl (by decide) (fun _ => rfl) hf (fun x0_5 hf => ?_)
  refine g_iload_n C 48 0 dJ6_bitCount_0f7a4_48 rfl rfl ?_
  refine g_bipush C 49 (63 : Int32) dJ6_bitCount_0f7a4_49 (by decide) ?_
  refine g_iand C 51 dJ6_bitCount_0f7a4_51 ?_
  cases hf
  exact g_iret C 52 dJ6_bitCount_0f7a4_52 F hB

def L_J7_fill_d0a16_6 (N_u : Nat) (a1 : Int64)  : Nat → Int32 → Int32 → (Nat → Int64) → Option ((Nat → Int64))
  | 0, _, _, _ => none
  | n + 1, x3, x4, u =>
    if x4 ≤ x3 then
      some (u)
    else
      stJ u N_u x3 a1 fun u_3 =>
      bnd (x3 + (1 : Int32)) fun x3_4 =>
      L_J7_fill_d0a16_6 N_u a1 n x3_4 x4 u_3

set_option maxRecDepth 100000 in
set_option maxHeartbeats 1000000 in
theorem w_J7_fill_d0a16_6 (cA : Nat → ClassId) (q_u : Nat) (N_u : Nat) (a1 : Int64) {X : XT}  (C : Cx X cJ7_fill_d0a16 RJ7 none cA 0 0 5) {kk nn : Nat} {BB : Option Value → va_W → Prop} (hk : kk ≤ (x_R X).cells ∧ nn ≤ (x_R X).slots) (F : Fx X BB kk nn) (r : (Nat → Int64)) (hB : BB (none) [aJ cA q_u N_u r])  : ∀ (n : Nat) (x3 : Int32) (x4 : Int32) (u : Nat → Int64), L_J7_fill_d0a16_6 N_u a1 n x3 x4 u = some r → Go X 5 kk nn 6 [aJ cA q_u N_u u] [(0, .ref q_u), (1, .long a1), (3, .int x3), (4, .int x4)] [] := by
  intro n
  induction n with
  | zero => intro x3 x4 u hf; exact no_some hf
  | succ n ih =>
    intro x3 x4 u hf
    rw [L_J7_fill_d0a16_6] at hf
    refine g_iload_n C 6 2 dJ7_fill_d0a16_6 rfl rfl ?_
    refine g_iload C 7 3 dJ7_fill_d0a16_7 rfl ?_
    refine g_icmp_ge C 9 22 dJ7_fill_d0a16_9 (by decide) hf (fun hf => ?_) (fun hf => ?_)
    · cases hf
      exact g_vret C 22 dJ7_fill_d0a16_22 F hB
    · refine g_aload_n C 12 0 dJ7_fill_d0a16_12 rfl rfl ?_
      refine g_iload_n C 13 2 dJ7_fill_d0a16_13 rfl rfl ?_
      refine g_lload_n C 14 1 dJ7_fill_d0a16_14 rfl rfl ?_
      refine g_last C 15 0 (fun z => [aJ cA q_u N_u z]) dJ7_fill_d0a16_15 rfl (fun _ => rfl) hf (fun u_3 hf => ?_)
      refine g_iinc C 16 2 (v := x3 + (1 : Int32)) (fun z => [(3, .int z), (0, .ref q_u), (1, .long a1), (4, .int x4)]) dJ7_fill_d0a16_16 rfl rfl (by decide) (fun _ => rfl) hf (fun x3_4 hf => ?_)
      refine g_goto C 19 6 dJ7_fill_d0a16_19 (by decide) ?_
      refine g_lv [1, 2, 0, 3] rfl ?_
      exact ih x3_4 x4 u_3 hf
def f_J7_fill_d0a16 (N_u : Nat) (a1 : Int64) (u : Nat → Int64) : Option ((Nat → Int64)) :=
  bnd (0 : Int32) fun x3_1 =>
  bnd (Int32.ofNat N_u) fun x4_2 =>
  L_J7_fill_d0a16_6 N_u a1 NN x3_1 x4_2 u

set_option maxRecDepth 100000 in
set_option maxHeartbeats 1000000 in
theorem c_J7_fill_d0a16 (l : Launch) (cA : Nat → ClassId) (q_u : Nat) (N_u : Nat) (u : Nat → Int64)  (a1 : Int64) (r : (Nat → Int64)) (hf : f_J7_fill_d0a16 N_u a1 u = some r) : MT l cA yJ7_fill_d0a16 cJ7_fill_d0a16 5 none ({ frames := 0, cells := 0, slots := 0, locals := 0 } : Room) [.ref q_u, .long a1] [aJ cA q_u N_u u] (sB (none) [aJ cA q_u N_u r]) := by
  refine MT.of (by decide) (Nat.le_of_ble_eq_true rfl) ?_
  intro X hXl C F hnm hrc hrs
  subst hXl
  have hk : 0 ≤ (x_R X).cells ∧ 0 ≤ (x_R X).slots := ⟨Nat.zero_le _, Nat.zero_le _⟩
  have hB : (sB (none) [aJ cA q_u N_u r]) (none) [aJ cA q_u N_u r] := ⟨rfl, rfl⟩
  unfold f_J7_fill_d0a16 at hf
  have C : Cx X cJ7_fill_d0a16 RJ7 none cA 0 0 5 := C
  show Go X 5 0 0 0 [aJ cA q_u N_u u] [(0, .ref q_u), (1, .long a1)] []
  refine g_iconst C 0 (0 : Int32) dJ7_fill_d0a16_0 (by decide) ?_
  refine g_istore_n C 1 (fun z => [(3, .int z), (0, .ref q_u), (1, .long a1)]) dJ7_fill_d0a16_1 rfl (by decide) (fun _ => rfl) hf (fun x3_1 hf => ?_)
  refine g_aload_n C 2 1 dJ7_fill_d0a16_2 rfl rfl ?_
  refine g_alen C 3 0 1 (Int32.ofNat N_u) dJ7_fill_d0a16_3 rfl rfl rfl ?_
  refine g_istore C 4 (fun z => [(4, .int z), (3, .int x3_1), (0, .ref q_u), (1, .long a1)]) dJ7_fill_d0a16_4 (by decide) (fun _ => rfl) hf (fun x4_2 hf => ?_)
  refine g_lv [2, 3, 1, 0] rfl ?_
  exact w_J7_fill_d0a16_6 cA q_u N_u a1 C hk F r hB NN x3_1 x4_2 u hf

def f_X8_isWeight (a0 : Int32) : Option (Int32) :=
  if a0 < 0 then
    some ((0 : Int32))
  else
    if (1000 : Int32) < a0 then
      some ((0 : Int32))
    else
      some ((1 : Int32))

set_option maxRecDepth 100000 in
set_option maxHeartbeats 1000000 in
theorem c_X8_isWeight (l : Launch) (cA : Nat → ClassId)   (a0 : Int32) (r : Int32) (hf : f_X8_isWeight a0 = some r) : MT l cA yX8_isWeight cX8_isWeight 1 (some .boolean) ({ frames := 0, cells := 0, slots := 0, locals := 0 } : Room) [.int a0] [] (sB (some (.int r)) []) := by
  refine MT.of (by decide) (Nat.le_of_ble_eq_true rfl) ?_
  intro X hXl C F hnm hrc hrs
  subst hXl
  have hk : 0 ≤ (x_R X).cells ∧ 0 ≤ (x_R X).slots := ⟨Nat.zero_le _, Nat.zero_le _⟩
  have hB : (sB (some (.int r)) []) (some (.int r)) [] := ⟨rfl, rfl⟩
  unfold f_X8_isWeight at hf
  have C : Cx X cX8_isWeight RX8 (some .boolean) cA 0 0 1 := C
  show Go X 1 0 0 0 [] [(0, .int a0)] []
  refine g_iload_n C 0 0 dX8_isWeight_0 rfl rfl ?_
  refine g_if_lt C 1 15 dX8_isWeight_1 (by decide) hf (fun hf => ?_) (fun hf => ?_)
  · refine g_iconst C 15 (0 : Int32) dX8_isWeight_15 (by decide) ?_
    cases hf
    exact g_zret C 16 dX8_isWeight_16 (by decide) F hB
  · refine g_iload_n C 4 0 dX8_isWeight_4 rfl rfl ?_
    refine g_sipush C 5 (1000 : Int32) dX8_isWeight_5 (by decide) ?_
    refine g_icmp_gt C 8 15 dX8_isWeight_8 (by decide) hf (fun hf => ?_) (fun hf => ?_)
    · refine g_iconst C 15 (0 : Int32) dX8_isWeight_15 (by decide) ?_
      cases hf
      exact g_zret C 16 dX8_isWeight_16 (by decide) F hB
    · refine g_iconst C 11 (1 : Int32) dX8_isWeight_11 (by decide) ?_
      refine g_goto C 12 16 dX8_isWeight_12 (by decide) ?_
      cases hf
      exact g_zret C 16 dX8_isWeight_16 (by decide) F hB

def f_X8_isFactor (a0 : Int32) : Option (Int32) :=
  if a0 < (-10 : Int32) then
    some ((0 : Int32))
  else
    if (10 : Int32) < a0 then
      some ((0 : Int32))
    else
      some ((1 : Int32))

set_option maxRecDepth 100000 in
set_option maxHeartbeats 1000000 in
theorem c_X8_isFactor (l : Launch) (cA : Nat → ClassId)   (a0 : Int32) (r : Int32) (hf : f_X8_isFactor a0 = some r) : MT l cA yX8_isFactor cX8_isFactor 1 (some .boolean) ({ frames := 0, cells := 0, slots := 0, locals := 0 } : Room) [.int a0] [] (sB (some (.int r)) []) := by
  refine MT.of (by decide) (Nat.le_of_ble_eq_true rfl) ?_
  intro X hXl C F hnm hrc hrs
  subst hXl
  have hk : 0 ≤ (x_R X).cells ∧ 0 ≤ (x_R X).slots := ⟨Nat.zero_le _, Nat.zero_le _⟩
  have hB : (sB (some (.int r)) []) (some (.int r)) [] := ⟨rfl, rfl⟩
  unfold f_X8_isFactor at hf
  have C : Cx X cX8_isFactor RX8 (some .boolean) cA 0 0 1 := C
  show Go X 1 0 0 0 [] [(0, .int a0)] []
  refine g_iload_n C 0 0 dX8_isFactor_0 rfl rfl ?_
  refine g_bipush C 1 (-10 : Int32) dX8_isFactor_1 (by decide) ?_
  refine g_icmp_lt C 3 16 dX8_isFactor_3 (by decide) hf (fun hf => ?_) (fun hf => ?_)
  · refine g_iconst C 16 (0 : Int32) dX8_isFactor_16 (by decide) ?_
    cases hf
    exact g_zret C 17 dX8_isFactor_17 (by decide) F hB
  · refine g_iload_n C 6 0 dX8_isFactor_6 rfl rfl ?_
    refine g_bipush C 7 (10 : Int32) dX8_isFactor_7 (by decide) ?_
    refine g_icmp_gt C 9 16 dX8_isFactor_9 (by decide) hf (fun hf => ?_) (fun hf => ?_)
    · refine g_iconst C 16 (0 : Int32) dX8_isFactor_16 (by decide) ?_
      cases hf
      exact g_zret C 17 dX8_isFactor_17 (by decide) F hB
    · refine g_iconst C 12 (1 : Int32) dX8_isFactor_12 (by decide) ?_
      refine g_goto C 13 17 dX8_isFactor_13 (by decide) ?_
      cases hf
      exact g_zret C 17 dX8_isFactor_17 (by decide) F hB

def f_X8_signOf (a0 : Int32) : Option (Int32) :=
  if a0 = 0 then
    some ((-1 : Int32))
  else
    some ((1 : Int32))

set_option maxRecDepth 100000 in
set_option maxHeartbeats 1000000 in
theorem c_X8_signOf (l : Launch) (cA : Nat → ClassId)   (a0 : Int32) (r : Int32) (hf : f_X8_signOf a0 = some r) : MT l cA yX8_signOf cX8_signOf 1 (some .int) ({ frames := 0, cells := 0, slots := 0, locals := 0 } : Room) [.int a0] [] (sB (some (.int r)) []) := by
  refine MT.of (by decide) (Nat.le_of_ble_eq_true rfl) ?_
  intro X hXl C F hnm hrc hrs
  subst hXl
  have hk : 0 ≤ (x_R X).cells ∧ 0 ≤ (x_R X).slots := ⟨Nat.zero_le _, Nat.zero_le _⟩
  have hB : (sB (some (.int r)) []) (some (.int r)) [] := ⟨rfl, rfl⟩
  unfold f_X8_signOf at hf
  have C : Cx X cX8_signOf RX8 (some .int) cA 0 0 1 := C
  show Go X 1 0 0 0 [] [(0, .int a0)] []
  refine g_iload_n C 0 0 dX8_signOf_0 rfl rfl ?_
  refine g_if_eq C 1 8 dX8_signOf_1 (by decide) hf (fun hf => ?_) (fun hf => ?_)
  · refine g_iconst C 8 (-1 : Int32) dX8_signOf_8 (by decide) ?_
    cases hf
    exact g_iret C 9 dX8_signOf_9 F hB
  · refine g_iconst C 4 (1 : Int32) dX8_signOf_4 (by decide) ?_
    refine g_goto C 5 9 dX8_signOf_5 (by decide) ?_
    cases hf
    exact g_iret C 9 dX8_signOf_9 F hB
