theorem inT1 {w : Cond} (i : Nat) (h : tables_1_1[i]? = some w) : w ∈ lw_tbl := inT (List.mem_append_left _ (List.mem_of_getElem? h))
theorem inT2 {w : Cond} (i : Nat) (h : tables_1_2[i]? = some w) : w ∈ lw_tbl := inT (List.mem_append_right _ (List.mem_append_left _ (List.mem_of_getElem? h)))
theorem inT3 {w : Cond} (i : Nat) (h : tables_1_3[i]? = some w) : w ∈ lw_tbl := inT (List.mem_append_right _ (List.mem_append_right _ (List.mem_append_left _ (List.mem_of_getElem? h))))
theorem inT4 {w : Cond} (i : Nat) (h : tables_1_4[i]? = some w) : w ∈ lw_tbl := inT (List.mem_append_right _ (List.mem_append_right _ (List.mem_append_right _ (List.mem_append_left _ (List.mem_of_getElem? h)))))
theorem inT5 {w : Cond} (i : Nat) (h : tables_1_5[i]? = some w) : w ∈ lw_tbl := inT (List.mem_append_right _ (List.mem_append_right _ (List.mem_append_right _ (List.mem_append_right _ (List.mem_of_getElem? h)))))
theorem no_some {α : Type} {r : α} {P : Prop} (h : (none : Option α) = some r) : P := by cases h
theorem ite_or {β : Type} {c : Prop} [Decidable c] {x y : Option β} {r : β} (h : (if c then x else y) = some r) : (c ∧ x = some r) ∨ (¬ c ∧ y = some r) := by
  by_cases hc : c
  · exact Or.inl ⟨hc, ite_t h hc⟩
  · exact Or.inr ⟨hc, ite_f h hc⟩
/-- loops' fuel: more than any loop here takes -/
def NN : Nat := 32768
theorem i32_ne {x k : Int32} (h : ¬ x = k) : x.toInt ≠ k.toInt := fun e => h (Int32.toInt_inj.mp e)
theorem tsw_out3 {x : Int32} (h0 : ¬ x = 0) (h1 : ¬ x = 1) (h2 : ¬ x = 2) : x.toInt < 0 ∨ 2 < x.toInt := by
  have a := i32_ne h0; have b := i32_ne h1; have c := i32_ne h2
  have e0 : (0 : Int32).toInt = 0 := rfl
  have e1 : (1 : Int32).toInt = 1 := rfl
  have e2 : (2 : Int32).toInt = 2 := rfl
  omega
theorem tsw_out6 {x : Int32} (h0 : ¬ x = 0) (h1 : ¬ x = 1) (h2 : ¬ x = 2) (h3 : ¬ x = 3) (h4 : ¬ x = 4) (h5 : ¬ x = 5) : x.toInt < 0 ∨ 5 < x.toInt := by
  have a := i32_ne h0; have b := i32_ne h1; have c := i32_ne h2; have d := i32_ne h3; have e := i32_ne h4; have f := i32_ne h5
  have e0 : (0 : Int32).toInt = 0 := rfl
  have e1 : (1 : Int32).toInt = 1 := rfl
  have e2 : (2 : Int32).toInt = 2 := rfl
  have e3 : (3 : Int32).toInt = 3 := rfl
  have e4 : (4 : Int32).toInt = 4 := rfl
  have e5 : (5 : Int32).toInt = 5 := rfl
  omega
section GT
variable {X : XT} {cc : ByteArray} {own : String} {ret : Option FieldType} {cA : Nat → ClassId} {fr lo nL k n : Nat} {ws : va_W} {lv : List (Nat × Value)} {st : List Value} {ρ : Type} {r : ρ}
theorem g_tsw (C : Cx X cc own ret cA fr lo nL) (pc t : Nat) {x v : Int32} {df l h o : Int} {offs : Array Int} {len : Nat} (d : decode cc pc = .ok (.tableswitch df l h offs, len)) (hx : x = v) (h1 : ¬ v.toInt < l) (h2 : ¬ h < v.toInt) (ho : offs[(v.toInt - l).toNat]? = some o) (ht : (pc : Int) + o = (t : Int)) (K : Go X nL k n t ws lv st) : Go X nL k n pc ws lv (.int x :: st) := fun H locs ls hP hD hS hl => lv_tableIn C.ex C.by d (by rw [hx]; exact h1) (by rw [hx]; exact h2) (by rw [hx]; exact ho) ht (K H locs ls hP hD hS hl)
theorem g_tswO (C : Cx X cc own ret cA fr lo nL) (pc t : Nat) {x : Int32} {df l h : Int} {offs : Array Int} {len : Nat} (d : decode cc pc = .ok (.tableswitch df l h offs, len)) (hx : x.toInt < l ∨ h < x.toInt) (ht : (pc : Int) + df = (t : Int)) (K : Go X nL k n t ws lv st) : Go X nL k n pc ws lv (.int x :: st) := fun H locs ls hP hD hS hl => lv_tableOut C.ex C.by d hx ht (K H locs ls hP hD hS hl)
theorem g_min (C : Cx X cc own ret cA fr lo nL) (pc : Nat) {i : Nat} {x y : Int32} (d : decode cc pc = .ok (.invokestatic i, 3)) (h1 : Cond.methodLink own i Lib.Math.min.name ∈ G) (h2 : Cond.static Lib.Math.min.name ∈ G) (h3 : Cond.initialized "java/lang/Math" ∈ G) (h4 : Cond.code Lib.Math.min.name Lib.Math.min.code 2 (some .int) ∈ G) (hfr : 1 ≤ fr) (hlo : (st.map fun v => v.category).sum + 13 ≤ lo) (hk : k ≤ (x_R X).cells) (hn : n ≤ (x_R X).slots) (K : Go X nL k n (pc + 3) ws lv (.int (if y < x then y else x) :: st)) : Go X nL k n pc ws lv (.int y :: .int x :: st) := fun H locs ls hP hD hS hl => va_mmin C.ex C.by (C.ml.trans hl.1.symm) C.ow (C.ts _ h1) (C.ts _ h2) (C.ts _ h3) (C.ts _ h4) (Nat.le_trans hfr C.rm.1) (Nat.le_trans hlo C.rm.2) hk hn d (K H locs ls hP hD hS hl)
theorem g_copy (C : Cx X cc own ret cA fr lo nL) (pc q0 q1 : Nat) {i a0 a : Nat} {f g : Nat → Int32} (wsF : (Nat → Int32) → va_W) {kf : (Nat → Int32) → Option ρ} (d : decode cc pc = .ok (.invokestatic i, 3)) (h1 : Cond.methodLink own i arraycopyName ∈ G) (h2 : Cond.native arraycopyName ∈ G) (h3 : Cond.static arraycopyName ∈ G) (h4 : Cond.initialized "java/lang/System" ∈ G) (ha0 : ws[q0]? = some (aI cA a0 14 f)) (ha1 : ws[q1]? = some (aI cA a 14 g)) (hfr : 1 ≤ fr) (hst : (nativeFrameWords "java/lang/System" "arraycopy" 5 + 11) ≤ 40) (hlo : (st.map fun v => v.category).sum + 40 ≤ lo) (hw : ∀ z, ws.set q1 (aI cA a 14 z) = wsF z) (hf : bnd (va_cpy f g 0 0 14) kf = some r) (K : ∀ z : Nat → Int32, kf z = some r → Go X nL k n (pc + 3) (wsF z) lv st) : Go X nL k n pc ws lv (.int 14 :: .int 0 :: .ref a :: .int 0 :: .ref a0 :: st) := fun H locs ls hP hD hS hl => va_copyi (ty := .int) C.ex C.by (C.ml.trans hl.1.symm) C.ow (C.ts _ h1) (C.ts _ h2) (C.ts _ h3) (C.ts _ h4) C.K hP hD hS q0 q1 0 0 ha0 ha1 rfl rfl rfl (by decide) (by decide) (by decide) (by decide) (by decide) (fun _ _ => rfl) (Nat.le_trans hfr C.rm.1) (Nat.le_trans (Nat.le_trans (Nat.add_le_add_left hst _) hlo) C.rm.2) d (fun H1 l1 hP hD hS => K _ hf H1 l1 ls (hw _ ▸ hP) (hw _ ▸ hD) hS hl)
end GT
theorem inX0 : ∀ w ∈ u_ws RX0 TX0 3, w ∈ G := fun w h => inG ((by decide +kernel : ∀ w ∈ u_ws RX0 TX0 3, w ∈ lw_tbl) w h) ((by decide +kernel : ∀ w ∈ u_ws RX0 TX0 3, goodWord w = true) w h)
theorem inX1 : ∀ w ∈ u_ws RX1 TX1 3, w ∈ G := fun w h => inG ((by decide +kernel : ∀ w ∈ u_ws RX1 TX1 3, w ∈ lw_tbl) w h) ((by decide +kernel : ∀ w ∈ u_ws RX1 TX1 3, goodWord w = true) w h)
theorem inX2 : ∀ w ∈ u_ws RX2 TX2 3, w ∈ G := fun w h => inG ((by decide +kernel : ∀ w ∈ u_ws RX2 TX2 3, w ∈ lw_tbl) w h) ((by decide +kernel : ∀ w ∈ u_ws RX2 TX2 3, goodWord w = true) w h)
theorem inX3 : ∀ w ∈ u_ws RX3 TX3 5, w ∈ G := fun w h => inG ((by decide +kernel : ∀ w ∈ u_ws RX3 TX3 5, w ∈ lw_tbl) w h) ((by decide +kernel : ∀ w ∈ u_ws RX3 TX3 5, goodWord w = true) w h)
theorem inX4 : ∀ w ∈ u_ws RX4 TX4 5, w ∈ G := fun w h => inG ((by decide +kernel : ∀ w ∈ u_ws RX4 TX4 5, w ∈ lw_tbl) w h) ((by decide +kernel : ∀ w ∈ u_ws RX4 TX4 5, goodWord w = true) w h)
theorem inX5 : ∀ w ∈ u_ws RX5 TX5 11, w ∈ G := fun w h => inG ((by decide +kernel : ∀ w ∈ u_ws RX5 TX5 11, w ∈ lw_tbl) w h) ((by decide +kernel : ∀ w ∈ u_ws RX5 TX5 11, goodWord w = true) w h)
theorem inX6 : ∀ w ∈ u_ws RX6 TX6 4, w ∈ G := fun w h => inG ((by decide +kernel : ∀ w ∈ u_ws RX6 TX6 4, w ∈ lw_tbl) w h) ((by decide +kernel : ∀ w ∈ u_ws RX6 TX6 4, goodWord w = true) w h)
theorem inX7 : ∀ w ∈ u_ws RX7 TX7 17, w ∈ G := fun w h => inG ((by decide +kernel : ∀ w ∈ u_ws RX7 TX7 17, w ∈ lw_tbl) w h) ((by decide +kernel : ∀ w ∈ u_ws RX7 TX7 17, goodWord w = true) w h)
theorem inX8 : ∀ w ∈ u_ws RX8 TX8 8, w ∈ G := fun w h => inG ((by decide +kernel : ∀ w ∈ u_ws RX8 TX8 8, w ∈ lw_tbl) w h) ((by decide +kernel : ∀ w ∈ u_ws RX8 TX8 8, goodWord w = true) w h)
theorem inX9 : ∀ w ∈ u_ws RX9 TX9 23, w ∈ G := fun w h => inG ((by decide +kernel : ∀ w ∈ u_ws RX9 TX9 23, w ∈ lw_tbl) w h) ((by decide +kernel : ∀ w ∈ u_ws RX9 TX9 23, goodWord w = true) w h)
