theorem dX6_init_0 : decode cX6_init 0 = .ok (.aload_n 0, 1) := by decide +kernel
theorem dX6_init_1 : decode cX6_init 1 = .ok (.invokespecial 3, 3) := by decide +kernel
theorem dX6_init_4 : decode cX6_init 4 = .ok (.aload_n 0, 1) := by decide +kernel
theorem dX6_init_5 : decode cX6_init 5 = .ok (.new 9, 3) := by decide +kernel
theorem dX6_init_8 : decode cX6_init 8 = .ok (.dup, 1) := by decide +kernel
theorem dX6_init_9 : decode cX6_init 9 = .ok (.invokespecial 11, 3) := by decide +kernel
theorem dX6_init_12 : decode cX6_init 12 = .ok (.putfield 12, 3) := by decide +kernel
theorem dX6_init_15 : decode cX6_init 15 = .ok (.aload_n 0, 1) := by decide +kernel
theorem dX6_init_16 : decode cX6_init 16 = .ok (.bipush 15, 2) := by decide +kernel
theorem dX6_init_18 : decode cX6_init 18 = .ok (.anewarray 9, 3) := by decide +kernel
theorem dX6_init_21 : decode cX6_init 21 = .ok (.putfield 18, 3) := by decide +kernel
theorem dX6_init_24 : decode cX6_init 24 = .ok (.aload_n 0, 1) := by decide +kernel
theorem dX6_init_25 : decode cX6_init 25 = .ok (.sipush 256, 3) := by decide +kernel
theorem dX6_init_28 : decode cX6_init 28 = .ok (.newarray .long, 2) := by decide +kernel
theorem dX6_init_30 : decode cX6_init 30 = .ok (.putfield 22, 3) := by decide +kernel
theorem dX6_init_33 : decode cX6_init 33 = .ok (.iconst 0, 1) := by decide +kernel
theorem dX6_init_34 : decode cX6_init 34 = .ok (.istore_n 1, 1) := by decide +kernel
theorem dX6_init_35 : decode cX6_init 35 = .ok (.iload_n 1, 1) := by decide +kernel
theorem dX6_init_36 : decode cX6_init 36 = .ok (.aload_n 0, 1) := by decide +kernel
theorem dX6_init_37 : decode cX6_init 37 = .ok (.getfield 18, 3) := by decide +kernel
theorem dX6_init_40 : decode cX6_init 40 = .ok (.arraylength, 1) := by decide +kernel
theorem dX6_init_41 : decode cX6_init 41 = .ok (.if_icmp .ge 22, 3) := by decide +kernel
theorem dX6_init_44 : decode cX6_init 44 = .ok (.aload_n 0, 1) := by decide +kernel
theorem dX6_init_45 : decode cX6_init 45 = .ok (.getfield 18, 3) := by decide +kernel
theorem dX6_init_48 : decode cX6_init 48 = .ok (.iload_n 1, 1) := by decide +kernel
theorem dX6_init_49 : decode cX6_init 49 = .ok (.new 9, 3) := by decide +kernel
theorem dX6_init_52 : decode cX6_init 52 = .ok (.dup, 1) := by decide +kernel
theorem dX6_init_53 : decode cX6_init 53 = .ok (.invokespecial 11, 3) := by decide +kernel
theorem dX6_init_56 : decode cX6_init 56 = .ok (.aastore, 1) := by decide +kernel
theorem dX6_init_57 : decode cX6_init 57 = .ok (.iinc 1 1, 3) := by decide +kernel
theorem dX6_init_60 : decode cX6_init 60 = .ok (.goto (-25), 3) := by decide +kernel
theorem dX6_init_63 : decode cX6_init 63 = .ok (.return_, 1) := by decide +kernel
/-- levels as they are made -/
def lvN (cA : Nat → ClassId) (ad an : Nat → Nat) (i : Nat) : va_W := (List.range (2 * i)).map (fun k => if k % 2 = 0 then oB (ad (k / 2)) 1 [.ref (an (k / 2)), .int 0, .int 0] else aI cA (an (k / 2)) 14 (fun _ => 0))
theorem lvN_len {cA : Nat → ClassId} {ad an : Nat → Nat} {i : Nat} : (lvN cA ad an i).length = 2 * i := by simp [lvN]
theorem lvN_up {cA : Nat → ClassId} {ad an : Nat → Nat} {i q qn : Nat} : lvN cA (va_up ad i q) (va_up an i qn) (i + 1) = lvN cA ad an i ++ [oB q 1 [.ref qn, .int 0, .int 0], aI cA qn 14 (fun _ => 0)] := by
  unfold lvN
  rw [show 2 * (i + 1) = 2 * i + 1 + 1 by omega, List.range_succ, List.range_succ, List.append_assoc, List.map_append]
  congr 1
  · refine List.map_congr_left (fun k hk => ?_)
    have hk := List.mem_range.mp hk
    have h : k / 2 ≠ i := by omega
    simp [va_up, h]
  · have h1 : 2 * i % 2 = 0 := by omega
    have h2 : ¬ (2 * i + 1) % 2 = 0 := by omega
    have h3 : 2 * i / 2 = i := by omega
    have h4 : (2 * i + 1) / 2 = i := by omega
    simp only [List.cons_append, List.nil_append, List.map_cons, List.map_nil, if_pos h1, if_neg h2, h3, h4, va_up, if_true]
theorem lvN_15 {cA : Nat → ClassId} {ad an : Nat → Nat} : lvN cA ad an 15 = lvW cA ad an (fun _ => 0) (fun _ => 0) (fun _ _ => 0) := rfl
theorem aG_same {D : va_G} {cA : Nat → ClassId} {q n : Nat} {f g : Nat → Option Nat} (h : ∀ k, k < n → f k = g k) {H : Heap} (hP : va_at D vwCl (aG cA q n f) H) : va_at D vwCl (aG cA q n g) H := by
  show H[q]? = some (vp_cell _ _)
  have e : vp_cell (cA 3) (n, .inr (.inr (.inr (.inr g)))) = vp_cell (cA 3) (n, .inr (.inr (.inr (.inr f)))) := by
    rw [vp_cell_q, vp_cell_q]
    unfold arrV
    congr 1
    congr 1
    funext j
    show va_rf (g j.val) = va_rf (f j.val)
    rw [h j.val j.isLt]
  rw [e]
  exact hP
section GA
variable {X : XT} {cc : ByteArray} {own : String} {ret : Option FieldType} {cA : Nat → ClassId} {fr lo nL k n : Nat} {ws : va_W} {lv : List (Nat × Value)} {st : List Value}
theorem g_ast (C : Cx X cc own ret cA fr lo nL) (pc q0 qk : Nat) {a m v : Nat} {vs : List Value} {f : Nat → Option Nat} {i : Int32} {ws' : va_W} (d : decode cc pc = .ok (.aastore, 1)) (ha : ws[q0]? = some (aG cA a m f)) (hv : ws[qk]? = some (oB v 1 vs)) (hin : vp_in i m) (hws : ws.set q0 (aG cA a m (va_up f i.toNatClampNeg (some v))) = ws') (K : Go X nL k n (pc + 1) ws' lv st) : Go X nL k n pc ws lv (.ref v :: .int i :: .ref a :: st) := fun H locs ls hP hD hS hl => va_astq (r := (RX1, TX1, 3)) C.ex C.by C.K hP hD hS q0 3 qk 1 ha rfl hv rfl hin d (fun H1 l1 hP hD hS => K H1 l1 ls (hws ▸ hP) (hws ▸ hD) hS hl)
end GA
def iB_X6 (cA : Nat → ClassId) (q_t : Nat) : Option Value → va_W → Prop := fun res w => ∃ (qr qrn ql qs : Nat) (ad an : Nat → Nat), res = none ∧ w = [oB q_t 6 [.ref qr, .ref ql, .ref qs, .int 0], oB qr 1 [.ref qrn, .int 0, .int 0], aI cA qrn 14 (fun _ => 0), aG cA ql 15 (fun i => some (ad i)), aJ cA qs 256 (fun _ => 0)] ++ lvW cA ad an (fun _ => 0) (fun _ => 0) (fun _ _ => 0)
set_option maxRecDepth 100000 in
set_option maxHeartbeats 1000000 in
theorem x6_loop (cA : Nat → ClassId) (q_t qr qrn ql qs : Nat) {X : XT} (C : Cx X cX6_init RX6 none cA 3 80 2) (hrc : (x_R X).cells = 34) (hrs : (x_R X).slots = 543) (F : Fx X (iB_X6 cA q_t) 34 543) : ∀ (m i : Nat) (ad an : Nat → Nat) (fl : Nat → Option Nat), i + m = 15 → (∀ k, k < i → fl k = some (ad k)) → Go X 2 (4 + 2 * i) (288 + 17 * i) 35 ([oB q_t 6 [.ref qr, .ref ql, .ref qs, .int 0], oB qr 1 [.ref qrn, .int 0, .int 0], aI cA qrn 14 (fun _ => 0), aG cA ql 15 fl, aJ cA qs 256 (fun _ => 0)] ++ lvN cA ad an i) [(0, .ref q_t), (1, .int (nI i))] [] := by
  intro m
  induction m with
  | zero =>
    intro i ad an fl hi hfl
    have hi : i = 15 := by omega
    subst hi
    refine g_iload_n C 35 1 dX6_init_35 rfl rfl ?_
    refine g_aload_n C 36 0 dX6_init_36 rfl rfl ?_
    refine g_get C 37 0 1 dX6_init_37 inX6 rfl rfl (by decide) kw_460 rfl ?_
    refine g_alen C 40 3 3 (15 : Int32) dX6_init_40 rfl rfl rfl ?_
    refine g_icmp_ge C 41 63 dX6_init_41 (by decide) (if_pos (by decide) : (if (15 : Int32) ≤ nI 15 then some () else none) = some ()) (fun _ => ?_) (fun h => by cases h)
    intro H locs ls hP hD hS hl
    have hP2 : va_P (x_D X) vwCl ([oB q_t 6 [.ref qr, .ref ql, .ref qs, .int 0], oB qr 1 [.ref qrn, .int 0, .int 0], aI cA qrn 14 (fun _ => 0), aG cA ql 15 (fun i => some (ad i)), aJ cA qs 256 (fun _ => 0)] ++ lvW cA ad an (fun _ => 0) (fun _ => 0) (fun _ _ => 0)) H := by
      intro k q hk
      by_cases h3 : k = 3
      · subst h3
        cases hk
        exact aG_same hfl (hP 3 _ rfl)
      · refine hP k q ?_
        rw [lvN_15]
        match k, h3, hk with
        | 0, _, hk => exact hk
        | 1, _, hk => exact hk
        | 2, _, hk => exact hk
        | 4, _, hk => exact hk
        | k + 5, _, hk => exact hk
    have hD2 : va_D (x_A X) ([oB q_t 6 [.ref qr, .ref ql, .ref qs, .int 0], oB qr 1 [.ref qrn, .int 0, .int 0], aI cA qrn 14 (fun _ => 0), aG cA ql 15 (fun i => some (ad i)), aJ cA qs 256 (fun _ => 0)] ++ lvW cA ad an (fun _ => 0) (fun _ => 0) (fun _ _ => 0)) := hD.set (p := 3) (e := .inl (cA 3, 15, .inr (.inr (.inr (.inr (fun i => some (ad i))))))) (a := ql) rfl
    exact g_vret (k := 34) (n := 543) C 63 dX6_init_63 F ⟨qr, qrn, ql, qs, ad, an, rfl, rfl⟩ H locs ls hP2 hD2 hS hl
  | succ m ih =>
    intro i ad an fl hi hfl
    have hi15 : i < 15 := by omega
    have hlt : ¬ (15 : Int32) ≤ nI i := nI_ge hi15 (by decide)
    refine g_iload_n C 35 1 dX6_init_35 rfl rfl ?_
    refine g_aload_n C 36 0 dX6_init_36 rfl rfl ?_
    refine g_get C 37 0 1 dX6_init_37 inX6 rfl rfl (by decide) kw_460 rfl ?_
    refine g_alen C 40 3 3 (15 : Int32) dX6_init_40 rfl rfl rfl ?_
    refine g_icmp_ge C 41 63 dX6_init_41 (by decide) (if_neg hlt : (if (15 : Int32) ≤ nI i then none else some ()) = some ()) (fun h => by cases h) (fun _ => ?_)
    refine g_aload_n C 44 0 dX6_init_44 rfl rfl ?_
    refine g_get C 45 0 1 dX6_init_45 inX6 rfl rfl (by decide) kw_460 rfl ?_
    refine g_iload_n C 48 1 dX6_init_48 rfl rfl ?_
    refine g_new C 49 tyX1 [.null, .int 0, .int 0] (4 + 2 * i + 1) (288 + 17 * i + 3) (fun z => ([oB q_t 6 [.ref qr, .ref ql, .ref qs, .int 0], oB qr 1 [.ref qrn, .int 0, .int 0], aI cA qrn 14 (fun _ => 0), aG cA ql 15 fl, aJ cA qs 256 (fun _ => 0)] ++ lvN cA ad an i) ++ [oB z 1 [.null, .int 0, .int 0]]) dX6_init_49 inX1 tyX1_ok kw_570 kw_541 kw_16 rfl (by decide) (by rw [hrc]; omega) (by rw [hrs]; omega) rfl rfl (fun _ => rfl) (fun q => ?_)
    refine g_dup C 52 dX6_init_52 rfl ?_
    have hl5 : ([oB q_t 6 [.ref qr, .ref ql, .ref qs, .int 0], oB qr 1 [.ref qrn, .int 0, .int 0], aI cA qrn 14 (fun _ => 0), aG cA ql 15 fl, aJ cA qs 256 (fun _ => 0)] ++ lvN cA ad an i : va_W).length = 5 + 2 * i := by
      rw [List.length_append, lvN_len]; rfl
    generalize hPe : ([oB q_t 6 [.ref qr, .ref ql, .ref qs, .int 0], oB qr 1 [.ref qrn, .int 0, .int 0], aI cA qrn 14 (fun _ => 0), aG cA ql 15 fl, aJ cA qs 256 (fun _ => 0)] ++ lvN cA ad an i : va_W) = Pp at hl5 ⊢
    refine g_callIN C 53 [5 + 2 * i] (rest := [.ref q, .int (nI i), .ref ql]) (4 + 2 * i + 2) (288 + 17 * i + 17) dX6_init_53 (c_X1_init (x_l X) cA q) (List.mem_of_getElem? (i := 10) rfl) kw_542 kw_16 kw_543 rfl ok_X1_init ⟨Nat.le_of_ble_eq_true rfl, Nat.le_of_ble_eq_true rfl⟩ (by rw [hrc]; omega) (by rw [hrs]; omega) rfl rfl (by simp [← hl5]) rfl rfl (Nat.le_of_ble_eq_true rfl) ?_
    intro res w1 hB
    obtain ⟨qn, rfl, rfl⟩ := hB
    refine ⟨Nat.le_of_ble_eq_true rfl, ?_⟩
    have e1 : putAt (Pp ++ [oB q 1 [.null, .int 0, .int 0]]) [5 + 2 * i] [oB q 1 [.ref qn, .int 0, .int 0], aI cA qn 14 (fun _ => 0)] = Pp ++ [oB q 1 [.ref qn, .int 0, .int 0], aI cA qn 14 (fun _ => 0)] := by
      show (Pp ++ [_]).set (5 + 2 * i) _ ++ _ = _
      rw [← hl5, List.set_append_right _ _ (Nat.le_refl _), Nat.sub_self]
      simp
    rw [e1, ← hPe, List.append_assoc, ← lvN_up]
    have hqk : ([oB q_t 6 [.ref qr, .ref ql, .ref qs, .int 0], oB qr 1 [.ref qrn, .int 0, .int 0], aI cA qrn 14 (fun _ => 0), aG cA ql 15 fl, aJ cA qs 256 (fun _ => 0)] ++ lvN cA (va_up ad i q) (va_up an i qn) (i + 1) : va_W)[5 + 2 * i]? = some (oB q 1 [.ref qn, .int 0, .int 0]) := by
      rw [lvN_up, ← List.append_assoc, hPe, ← hl5]
      simp
    refine g_ast C 56 3 (5 + 2 * i) dX6_init_56 rfl hqk (vp_in_nI hi15 (by decide)) rfl ?_
    refine g_iinc C 57 1 (v := nI i + (1 : Int32)) (fun z => [(1, .int z), (0, .ref q_t)]) dX6_init_57 rfl rfl (by decide) (fun _ => rfl) (rfl : bnd (nI i + (1 : Int32)) some = some (nI i + 1)) (fun z hz => ?_)
    cases hz
    refine g_goto C 60 35 dX6_init_60 (by decide) ?_
    refine g_lv [1, 0] rfl ?_
    rw [nI_1]
    refine ih (i + 1) (va_up ad i q) (va_up an i qn) _ (by omega) (fun k hk => ?_)
    rw [nI_clamp (by omega)]
    by_cases hki : k = i
    · simp [va_up, hki]
    · simp only [va_up, if_neg hki]
      exact hfl k (by omega)
set_option maxRecDepth 100000 in
set_option maxHeartbeats 1000000 in
theorem c_X6_init (l : Launch) (cA : Nat → ClassId) (q_t : Nat) : MT l cA yX6_init cX6_init 2 none ({ frames := 3, cells := 34, slots := 543, locals := 80 } : Room) [.ref q_t] [oB q_t 6 [.null, .null, .null, .int 0]] (iB_X6 cA q_t) := by
  refine MT.of (by decide) (Nat.le_of_ble_eq_true rfl) ?_
  intro X hXl C F hnm hrc hrs
  subst hXl
  have C : Cx X cX6_init RX6 none cA 3 80 2 := C
  show Go X 2 0 0 0 [oB q_t 6 [.null, .null, .null, .int 0]] [(0, .ref q_t)] []
  refine g_aload_n C 0 0 dX6_init_0 rfl rfl ?_
  refine g_obj C 1 dX6_init_1 kw_569 kw_531 kw_532 (by decide) (Nat.le_of_ble_eq_true rfl) ?_
  refine g_aload_n C 4 0 dX6_init_4 rfl rfl ?_
  refine g_new C 5 tyX1 [.null, .int 0, .int 0] 1 3 (fun z => [oB q_t 6 [.null, .null, .null, .int 0], oB z 1 [.null, .int 0, .int 0]]) dX6_init_5 inX1 tyX1_ok kw_570 kw_541 kw_16 rfl (by decide) (by rw [hrc]; exact Nat.le_of_ble_eq_true rfl) (by rw [hrs]; exact Nat.le_of_ble_eq_true rfl) rfl rfl (fun _ => rfl) (fun q5 => ?_)
  refine g_dup C 8 dX6_init_8 rfl ?_
  refine g_callIN C 9 [1] (rest := [.ref q5, .ref q_t]) 2 17 dX6_init_9 (c_X1_init (x_l X) cA q5) (List.mem_of_getElem? (i := 10) rfl) kw_542 kw_16 kw_543 rfl ok_X1_init ⟨Nat.le_of_ble_eq_true rfl, Nat.le_of_ble_eq_true rfl⟩ (by rw [hrc]; exact Nat.le_of_ble_eq_true rfl) (by rw [hrs]; exact Nat.le_of_ble_eq_true rfl) rfl rfl rfl rfl rfl (Nat.le_of_ble_eq_true rfl) ?_
  intro res w1 hB; obtain ⟨q5_q7, rfl, rfl⟩ := hB
  refine ⟨Nat.le_of_ble_eq_true rfl, ?_⟩
  show Go X 2 2 17 12 [oB q_t 6 [.null, .null, .null, .int 0], oB q5 1 [.ref q5_q7, .int 0, .int 0], aI cA q5_q7 14 (fun _ => 0)] [(0, .ref q_t)] [.ref q5, .ref q_t]
  refine g_putF C 12 0 0 (ws' := [oB q_t 6 [.ref q5, .null, .null, .int 0], oB q5 1 [.ref q5_q7, .int 0, .int 0], aI cA q5_q7 14 (fun _ => 0)]) tyX6 dX6_init_12 inX6 tyX6_ok nmX6 rfl rfl (by decide) kw_489 rfl hnm rfl rfl rfl (Nat.le_of_ble_eq_true rfl) rfl ?_
  refine g_aload_n C 15 0 dX6_init_15 rfl rfl ?_
  refine g_bipush C 16 (15 : Int32) dX6_init_16 (by decide) ?_
  refine g_newG C 18 15 3 32 (fun z => [oB q_t 6 [.ref q5, .null, .null, .int 0], oB q5 1 [.ref q5_q7, .int 0, .int 0], aI cA q5_q7 14 (fun _ => 0), aG cA z 15 (fun _ => none)]) dX6_init_18 kw_570 (by decide) (by decide) (by decide) (by rw [hrc]; exact Nat.le_of_ble_eq_true rfl) (by rw [hrs]; exact Nat.le_of_ble_eq_true rfl) rfl rfl (fun _ => rfl) (fun q18 => ?_)
  refine g_putF C 21 0 1 (ws' := [oB q_t 6 [.ref q5, .ref q18, .null, .int 0], oB q5 1 [.ref q5_q7, .int 0, .int 0], aI cA q5_q7 14 (fun _ => 0), aG cA q18 15 (fun _ => none)]) tyX6 dX6_init_21 inX6 tyX6_ok nmX6 rfl rfl (by decide) kw_460 rfl hnm rfl rfl rfl (Nat.le_of_ble_eq_true rfl) rfl ?_
  refine g_aload_n C 24 0 dX6_init_24 rfl rfl ?_
  refine g_sipush C 25 (256 : Int32) dX6_init_25 (by decide) ?_
  refine g_newJ C 28 256 4 288 (fun z => [oB q_t 6 [.ref q5, .ref q18, .null, .int 0], oB q5 1 [.ref q5_q7, .int 0, .int 0], aI cA q5_q7 14 (fun _ => 0), aG cA q18 15 (fun _ => none), aJ cA z 256 (fun _ => 0)]) dX6_init_28 kw_568 (by decide) (by decide) (by decide) (by rw [hrc]; exact Nat.le_of_ble_eq_true rfl) (by rw [hrs]; exact Nat.le_of_ble_eq_true rfl) rfl rfl (fun _ => rfl) (fun q28 => ?_)
  refine g_putF C 30 0 2 (ws' := [oB q_t 6 [.ref q5, .ref q18, .ref q28, .int 0], oB q5 1 [.ref q5_q7, .int 0, .int 0], aI cA q5_q7 14 (fun _ => 0), aG cA q18 15 (fun _ => none), aJ cA q28 256 (fun _ => 0)]) tyX6 dX6_init_30 inX6 tyX6_ok nmX6 rfl rfl (by decide) kw_141 rfl hnm rfl rfl rfl (Nat.le_of_ble_eq_true rfl) rfl ?_
  refine g_iconst C 33 (0 : Int32) dX6_init_33 (by decide) ?_
  refine g_istore_n C 34 (fun z => [(1, .int z), (0, .ref q_t)]) dX6_init_34 rfl (by decide) (fun _ => rfl) (rfl : bnd (0 : Int32) some = some 0) (fun z hz => ?_)
  cases hz
  refine g_lv [1, 0] rfl ?_
  exact x6_loop cA q_t q5 q5_q7 q18 q28 C hrc hrs F 15 0 (fun _ => 0) (fun _ => 0) (fun _ => none) rfl (fun k hk => absurd hk (Nat.not_lt_zero k))
