theorem some_pair {α β : Type} {a c : α} {b d : β} (h : some (a, b) = some (c, d)) : a = c ∧ b = d := by
  cases h
  exact ⟨rfl, rfl⟩
theorem lcmp_eq {x y : Int64} (h : x = y) : lg_cmp x y = 0 := by subst h; simp [lg_cmp]
theorem perm3 {P S T : va_W} : (P ++ (S ++ T)).Perm ((P ++ T) ++ S) := by
  rw [List.append_assoc]
  exact List.Perm.append_left P List.perm_append_comm
theorem perm4 {P T N : va_W} : ((P ++ T) ++ N).Perm (P ++ (N ++ T)) := by
  rw [List.append_assoc]
  exact List.Perm.append_left P List.perm_append_comm

set_option maxRecDepth 100000 in
set_option maxHeartbeats 2000000 in
theorem op_0 {X : XT} {cA : Nat → ClassId} {b L : Nat} {xs : Nat → Int32} (C : Cx X cL_law RL (some .boolean) cA 2048 84000 4) (E : Sx X b L xs) (hL : L < 2 ^ 31) (qx qm : Nat → Nat) (j : Nat) (hj : 5 * j + 5 ≤ L) (zs zt : Value) (SS TT : va_W) (kk nn : Nat) (hk : kk + 50 ≤ (x_R X).cells ∧ nn + 8000 ≤ (x_R X).slots) (σ σ' : XS) (μ μ' : MS) (hs : HS cA σ zs SS) (ht : HT cA qx σ zt TT) (v w : Int32) (hx : sx_knot (xs (5 * j + 1)) σ = some (v, σ')) (hm : sm_knot (xs (5 * j + 1)) μ = some (w, μ')) (K : ∀ (zs' zt' : Value) (SS' TT' : va_W) (kk' nn' : Nat), HS cA σ' zs' SS' → HT cA qx σ' zt' TT' → kk' ≤ kk + 50 → nn' ≤ nn + 8000 → Go X 4 kk' nn' 1030 (PW cA qx qm zs' zt' σ' μ' ++ (SS' ++ TT')) [(0, .ref b), (1, .ref (qx 0)), (2, .ref (qm 0)), (3, .int (nI (5 * j)))] []) : Go X 4 kk nn 176 (PW cA qx qm zs zt σ μ ++ (SS ++ TT)) [(0, .ref b), (1, .ref (qx 0)), (2, .ref (qm 0)), (3, .int (nI (5 * j)))] [] := by
  unfold sx_knot at hx
  obtain ⟨rx, hrx, hx⟩ := cal_some hx
  obtain ⟨e1, e2⟩ := some_pair hx
  subst e1
  subst e2
  unfold sm_knot at hm
  obtain ⟨rm, hrm, hm⟩ := cal_some hm
  obtain ⟨e3, e4⟩ := some_pair hm
  subst e3
  subst e4
  have hk2 : kk ≤ (x_R X).cells ∧ nn ≤ (x_R X).slots := ⟨by omega, by omega⟩
  refine g_aload_n C 176 1 dL_law_176 rfl rfl ?_
  refine g_aload_n C 177 0 dL_law_177 rfl rfl ?_
  refine g_iload_n C 178 3 dL_law_178 rfl rfl ?_
  refine g_iconst C 179 (1 : Int32) dL_law_179 (by decide) ?_
  refine g_iadd C 180 dL_law_180 ?_
  refine g_sld C 181 E (5 * j + 1) dL_law_181 (nI_add (5 * j) 1) (by omega) hL ?_
  refine g_callB C 182 (P := PW cA qx qm zs zt σ μ) [0, 1, 2, 5, 7] 0 (rest := []) (P' := PW cA qx qm zs zt ((upd (upd (upd (upd σ.1 0 rx.2.1) 2 rx.2.2.2.1) 3 rx.2.2.2.2.1) 4 rx.2.2.2.2.2), σ.2.1, (va_up σ.2.2.1 0 rx.2.2.1), σ.2.2.2.1, σ.2.2.2.2) μ) dL_law_182 (c_X8_knot (x_l X) cA (qx 0) (qx 10) (qx 15) (qx 17) zs zt (qx 1) (qx 3) (qx 4) (σ.1 0) (σ.1 1) (qx 2) (σ.2.2.1 0) (qx 5) (qx 6) (σ.1 2) (σ.1 3) (qx 7) (qx 8) (qx 9) (σ.1 4) (xs (5 * j + 1)) rx hrx) kw_581 kw_582 kw_583 kw_6 kw_584 ok_X8_knot ⟨by decide, by decide⟩ hk2 ⟨rfl, rfl⟩ rfl rfl rfl rfl rfl (Nat.le_of_ble_eq_true rfl) rfl (N0 := 46) rfl [some 0, some 1, some 2, none, none, some 3, none, some 4, none, none, none, none, none, none, none, none, none, none, none, none, none, none, none, none, none, none, none, none, none, none, none, none, none, none, none, none, none, none, none, none, none, none, none, none, none, none] (by decide) rfl (st' := [.int rx.1]) rfl ?_
  refine g_pop C 185 dL_law_185 rfl ?_
  refine g_aload_n C 186 2 dL_law_186 rfl rfl ?_
  refine g_aload_n C 187 0 dL_law_187 rfl rfl ?_
  refine g_iload_n C 188 3 dL_law_188 rfl rfl ?_
  refine g_iconst C 189 (1 : Int32) dL_law_189 (by decide) ?_
  refine g_iadd C 190 dL_law_190 ?_
  refine g_sld C 191 E (5 * j + 1) dL_law_191 (nI_add (5 * j) 1) (by omega) hL ?_
  refine g_callB C 192 (P := PW cA qx qm zs zt ((upd (upd (upd (upd σ.1 0 rx.2.1) 2 rx.2.2.2.1) 3 rx.2.2.2.2.1) 4 rx.2.2.2.2.2), σ.2.1, (va_up σ.2.2.1 0 rx.2.2.1), σ.2.2.2.1, σ.2.2.2.2) μ) [29, 30, 31] 29 (rest := []) (P' := PW cA qx qm zs zt ((upd (upd (upd (upd σ.1 0 rx.2.1) 2 rx.2.2.2.1) 3 rx.2.2.2.2.1) 4 rx.2.2.2.2.2), σ.2.1, (va_up σ.2.2.1 0 rx.2.2.1), σ.2.2.2.1, σ.2.2.2.2) ((upd (upd (upd μ.1 0 rm.2.1) 1 rm.2.2.1) 2 rm.2.2.2.1), μ.2.1, (va_up (va_up μ.2.2.1 0 rm.2.2.2.2.1) 1 rm.2.2.2.2.2), μ.2.2.2)) dL_law_192 (c_X9_knot (x_l X) cA (qm 0) (μ.1 0) (qm 3) (μ.1 1) (qm 4) (μ.1 2) (qm 5) (qm 6) (qm 7) (μ.1 3) (qm 8) (qm 9) (qm 10) (qm 11) (qm 12) (qm 13) (qm 14) (qm 15) (qm 16) (μ.2.1 0) (μ.2.1 1) (μ.2.1 2) (qm 1) (μ.2.2.1 0) (qm 2) (μ.2.2.1 1) (xs (5 * j + 1)) rm hrm) kw_585 kw_586 kw_587 kw_343 kw_588 ok_X9_knot ⟨by decide, by decide⟩ hk2 ⟨rfl, rfl⟩ rfl rfl rfl rfl rfl (Nat.le_of_ble_eq_true rfl) rfl (N0 := 46) rfl [none, none, none, none, none, none, none, none, none, none, none, none, none, none, none, none, none, none, none, none, none, none, none, none, none, none, none, none, none, some 0, some 1, some 2, none, none, none, none, none, none, none, none, none, none, none, none, none, none] (by decide) rfl (st' := [.int rm.1]) rfl ?_
  refine g_pop C 195 dL_law_195 rfl ?_
  refine g_goto C 196 1030 dL_law_196 (by decide) ?_
  exact K zs zt SS TT kk nn hs ht (by omega) (by omega)

set_option maxRecDepth 100000 in
set_option maxHeartbeats 2000000 in
theorem op_1 {X : XT} {cA : Nat → ClassId} {b L : Nat} {xs : Nat → Int32} (C : Cx X cL_law RL (some .boolean) cA 2048 84000 4) (E : Sx X b L xs) (hL : L < 2 ^ 31) (qx qm : Nat → Nat) (j : Nat) (hj : 5 * j + 5 ≤ L) (zs zt : Value) (SS TT : va_W) (kk nn : Nat) (hk : kk + 50 ≤ (x_R X).cells ∧ nn + 8000 ≤ (x_R X).slots) (σ σ' : XS) (μ μ' : MS) (hs : HS cA σ zs SS) (ht : HT cA qx σ zt TT) (v w : Int32) (hx : sx_edge (xs (5 * j + 1)) (xs (5 * j + 2)) (xs (5 * j + 3)) σ = some (v, σ')) (hm : sm_edge (xs (5 * j + 1)) (xs (5 * j + 2)) (xs (5 * j + 3)) μ = some (w, μ')) (K : ∀ (zs' zt' : Value) (SS' TT' : va_W) (kk' nn' : Nat), HS cA σ' zs' SS' → HT cA qx σ' zt' TT' → kk' ≤ kk + 50 → nn' ≤ nn + 8000 → Go X 4 kk' nn' 1030 (PW cA qx qm zs' zt' σ' μ' ++ (SS' ++ TT')) [(0, .ref b), (1, .ref (qx 0)), (2, .ref (qm 0)), (3, .int (nI (5 * j)))] []) : Go X 4 kk nn 199 (PW cA qx qm zs zt σ μ ++ (SS ++ TT)) [(0, .ref b), (1, .ref (qx 0)), (2, .ref (qm 0)), (3, .int (nI (5 * j)))] [] := by
  unfold sx_edge at hx
  obtain ⟨rx, hrx, hx⟩ := cal_some hx
  obtain ⟨e1, e2⟩ := some_pair hx
  subst e1
  subst e2
  unfold sm_edge at hm
  obtain ⟨rm, hrm, hm⟩ := cal_some hm
  obtain ⟨e3, e4⟩ := some_pair hm
  subst e3
  subst e4
  have hk2 : kk ≤ (x_R X).cells ∧ nn ≤ (x_R X).slots := ⟨by omega, by omega⟩
  refine g_aload_n C 199 1 dL_law_199 rfl rfl ?_
  refine g_aload_n C 200 0 dL_law_200 rfl rfl ?_
  refine g_iload_n C 201 3 dL_law_201 rfl rfl ?_
  refine g_iconst C 202 (1 : Int32) dL_law_202 (by decide) ?_
  refine g_iadd C 203 dL_law_203 ?_
  refine g_sld C 204 E (5 * j + 1) dL_law_204 (nI_add (5 * j) 1) (by omega) hL ?_
  refine g_aload_n C 205 0 dL_law_205 rfl rfl ?_
  refine g_iload_n C 206 3 dL_law_206 rfl rfl ?_
  refine g_iconst C 207 (2 : Int32) dL_law_207 (by decide) ?_
  refine g_iadd C 208 dL_law_208 ?_
  refine g_sld C 209 E (5 * j + 2) dL_law_209 (nI_add (5 * j) 2) (by omega) hL ?_
  refine g_aload_n C 210 0 dL_law_210 rfl rfl ?_
  refine g_iload_n C 211 3 dL_law_211 rfl rfl ?_
  refine g_iconst C 212 (3 : Int32) dL_law_212 (by decide) ?_
  refine g_iadd C 213 dL_law_213 ?_
  refine g_sld C 214 E (5 * j + 3) dL_law_214 (nI_add (5 * j) 3) (by omega) hL ?_
  refine g_callB C 215 (P := PW cA qx qm zs zt σ μ) [0, 1, 3, 4] 0 (rest := []) (P' := PW cA qx qm zs zt ((upd σ.1 1 rx.2.1), σ.2.1, (va_up (va_up σ.2.2.1 1 rx.2.2.1) 2 rx.2.2.2), σ.2.2.2.1, σ.2.2.2.2) μ) dL_law_215 (c_X8_edge (x_l X) cA (qx 0) (qx 5) (qx 7) (qx 10) (qx 15) (qx 17) zs zt (qx 1) (qx 2) (σ.1 0) (σ.1 1) (qx 3) (σ.2.2.1 1) (qx 4) (σ.2.2.1 2) (xs (5 * j + 1)) (xs (5 * j + 2)) (xs (5 * j + 3)) rx hrx) kw_589 kw_590 kw_591 kw_6 kw_592 ok_X8_edge ⟨by decide, by decide⟩ hk2 ⟨rfl, rfl⟩ rfl rfl rfl rfl rfl (Nat.le_of_ble_eq_true rfl) rfl (N0 := 46) rfl [some 0, some 1, none, some 2, some 3, none, none, none, none, none, none, none, none, none, none, none, none, none, none, none, none, none, none, none, none, none, none, none, none, none, none, none, none, none, none, none, none, none, none, none, none, none, none, none, none, none] (by decide) rfl (st' := [.int rx.1]) rfl ?_
  refine g_pop C 218 dL_law_218 rfl ?_
  refine g_aload_n C 219 2 dL_law_219 rfl rfl ?_
  refine g_aload_n C 220 0 dL_law_220 rfl rfl ?_
  refine g_iload_n C 221 3 dL_law_221 rfl rfl ?_
  refine g_iconst C 222 (1 : Int32) dL_law_222 (by decide) ?_
  refine g_iadd C 223 dL_law_223 ?_
  refine g_sld C 224 E (5 * j + 1) dL_law_224 (nI_add (5 * j) 1) (by omega) hL ?_
  refine g_aload_n C 225 0 dL_law_225 rfl rfl ?_
  refine g_iload_n C 226 3 dL_law_226 rfl rfl ?_
  refine g_iconst C 227 (2 : Int32) dL_law_227 (by decide) ?_
  refine g_iadd C 228 dL_law_228 ?_
  refine g_sld C 229 E (5 * j + 2) dL_law_229 (nI_add (5 * j) 2) (by omega) hL ?_
  refine g_aload_n C 230 0 dL_law_230 rfl rfl ?_
  refine g_iload_n C 231 3 dL_law_231 rfl rfl ?_
  refine g_iconst C 232 (3 : Int32) dL_law_232 (by decide) ?_
  refine g_iadd C 233 dL_law_233 ?_
  refine g_sld C 234 E (5 * j + 3) dL_law_234 (nI_add (5 * j) 3) (by omega) hL ?_
  refine g_callB C 235 (P := PW cA qx qm zs zt ((upd σ.1 1 rx.2.1), σ.2.1, (va_up (va_up σ.2.2.1 1 rx.2.2.1) 2 rx.2.2.2), σ.2.2.2.1, σ.2.2.2.2) μ) [29, 31, 32] 29 (rest := []) (P' := PW cA qx qm zs zt ((upd σ.1 1 rx.2.1), σ.2.1, (va_up (va_up σ.2.2.1 1 rx.2.2.1) 2 rx.2.2.2), σ.2.2.2.1, σ.2.2.2.2) (μ.1, μ.2.1, (va_up (va_up μ.2.2.1 1 rm.2.1) 2 rm.2.2), μ.2.2.2)) dL_law_235 (c_X9_edge (x_l X) cA (qm 0) (μ.1 0) (qm 1) (μ.1 1) (qm 4) (μ.1 2) (qm 5) (qm 6) (qm 7) (μ.1 3) (qm 8) (qm 9) (qm 10) (qm 11) (qm 12) (qm 13) (qm 14) (qm 15) (qm 16) (μ.2.1 0) (μ.2.1 1) (μ.2.1 2) (qm 2) (μ.2.2.1 1) (qm 3) (μ.2.2.1 2) (xs (5 * j + 1)) (xs (5 * j + 2)) (xs (5 * j + 3)) rm hrm) kw_593 kw_594 kw_595 kw_343 kw_596 ok_X9_edge ⟨by decide, by decide⟩ hk2 ⟨rfl, rfl⟩ rfl rfl rfl rfl rfl (Nat.le_of_ble_eq_true rfl) rfl (N0 := 46) rfl [none, none, none, none, none, none, none, none, none, none, none, none, none, none, none, none, none, none, none, none, none, none, none, none, none, none, none, none, none, some 0, none, some 1, some 2, none, none, none, none, none, none, none, none, none, none, none, none, none] (by decide) rfl (st' := [.int rm.1]) rfl ?_
  refine g_pop C 238 dL_law_238 rfl ?_
  refine g_goto C 239 1030 dL_law_239 (by decide) ?_
  exact K zs zt SS TT kk nn hs ht (by omega) (by omega)

set_option maxRecDepth 100000 in
set_option maxHeartbeats 2000000 in
theorem op_2 {X : XT} {cA : Nat → ClassId} {b L : Nat} {xs : Nat → Int32} (C : Cx X cL_law RL (some .boolean) cA 2048 84000 4) (E : Sx X b L xs) (hL : L < 2 ^ 31) (qx qm : Nat → Nat) (j : Nat) (hj : 5 * j + 5 ≤ L) (zs zt : Value) (SS TT : va_W) (kk nn : Nat) (hk : kk + 50 ≤ (x_R X).cells ∧ nn + 8000 ≤ (x_R X).slots) (σ σ' : XS) (μ μ' : MS) (hs : HS cA σ zs SS) (ht : HT cA qx σ zt TT) (v w : Int32) (hx : sx_cut (xs (5 * j + 1)) (xs (5 * j + 2)) σ = some (v, σ')) (hm : sm_cut (xs (5 * j + 1)) (xs (5 * j + 2)) μ = some (w, μ')) (K : ∀ (zs' zt' : Value) (SS' TT' : va_W) (kk' nn' : Nat), HS cA σ' zs' SS' → HT cA qx σ' zt' TT' → kk' ≤ kk + 50 → nn' ≤ nn + 8000 → Go X 4 kk' nn' 1030 (PW cA qx qm zs' zt' σ' μ' ++ (SS' ++ TT')) [(0, .ref b), (1, .ref (qx 0)), (2, .ref (qm 0)), (3, .int (nI (5 * j)))] []) : Go X 4 kk nn 242 (PW cA qx qm zs zt σ μ ++ (SS ++ TT)) [(0, .ref b), (1, .ref (qx 0)), (2, .ref (qm 0)), (3, .int (nI (5 * j)))] [] := by
  unfold sx_cut at hx
  obtain ⟨rx, hrx, hx⟩ := cal_some hx
  obtain ⟨e1, e2⟩ := some_pair hx
  subst e1
  subst e2
  unfold sm_cut at hm
  obtain ⟨rm, hrm, hm⟩ := cal_some hm
  obtain ⟨e3, e4⟩ := some_pair hm
  subst e3
  subst e4
  have hk2 : kk ≤ (x_R X).cells ∧ nn ≤ (x_R X).slots := ⟨by omega, by omega⟩
  refine g_aload_n C 242 1 dL_law_242 rfl rfl ?_
  refine g_aload_n C 243 0 dL_law_243 rfl rfl ?_
  refine g_iload_n C 244 3 dL_law_244 rfl rfl ?_
  refine g_iconst C 245 (1 : Int32) dL_law_245 (by decide) ?_
  refine g_iadd C 246 dL_law_246 ?_
  refine g_sld C 247 E (5 * j + 1) dL_law_247 (nI_add (5 * j) 1) (by omega) hL ?_
  refine g_aload_n C 248 0 dL_law_248 rfl rfl ?_
  refine g_iload_n C 249 3 dL_law_249 rfl rfl ?_
  refine g_iconst C 250 (2 : Int32) dL_law_250 (by decide) ?_
  refine g_iadd C 251 dL_law_251 ?_
  refine g_sld C 252 E (5 * j + 2) dL_law_252 (nI_add (5 * j) 2) (by omega) hL ?_
  refine g_callB C 253 (P := PW cA qx qm zs zt σ μ) [0, 1, 3, 4] 0 (rest := []) (P' := PW cA qx qm zs zt ((upd σ.1 1 rx.2.1), σ.2.1, (va_up σ.2.2.1 1 rx.2.2), σ.2.2.2.1, σ.2.2.2.2) μ) dL_law_253 (c_X8_cut (x_l X) cA (qx 0) (qx 5) (qx 7) (qx 10) (qx 15) (qx 17) zs zt (qx 1) (qx 2) (σ.1 0) (σ.1 1) (qx 3) (σ.2.2.1 1) (qx 4) (σ.2.2.1 2) (xs (5 * j + 1)) (xs (5 * j + 2)) rx hrx) kw_597 kw_598 kw_599 kw_6 kw_600 ok_X8_cut ⟨by decide, by decide⟩ hk2 ⟨rfl, rfl⟩ rfl rfl rfl rfl rfl (Nat.le_of_ble_eq_true rfl) rfl (N0 := 46) rfl [some 0, some 1, none, some 2, some 3, none, none, none, none, none, none, none, none, none, none, none, none, none, none, none, none, none, none, none, none, none, none, none, none, none, none, none, none, none, none, none, none, none, none, none, none, none, none, none, none, none] (by decide) rfl (st' := [.int rx.1]) rfl ?_
  refine g_pop C 256 dL_law_256 rfl ?_
  refine g_aload_n C 257 2 dL_law_257 rfl rfl ?_
  refine g_aload_n C 258 0 dL_law_258 rfl rfl ?_
  refine g_iload_n C 259 3 dL_law_259 rfl rfl ?_
  refine g_iconst C 260 (1 : Int32) dL_law_260 (by decide) ?_
  refine g_iadd C 261 dL_law_261 ?_
  refine g_sld C 262 E (5 * j + 1) dL_law_262 (nI_add (5 * j) 1) (by omega) hL ?_
  refine g_aload_n C 263 0 dL_law_263 rfl rfl ?_
  refine g_iload_n C 264 3 dL_law_264 rfl rfl ?_
  refine g_iconst C 265 (2 : Int32) dL_law_265 (by decide) ?_
  refine g_iadd C 266 dL_law_266 ?_
  refine g_sld C 267 E (5 * j + 2) dL_law_267 (nI_add (5 * j) 2) (by omega) hL ?_
  refine g_callB C 268 (P := PW cA qx qm zs zt ((upd σ.1 1 rx.2.1), σ.2.1, (va_up σ.2.2.1 1 rx.2.2), σ.2.2.2.1, σ.2.2.2.2) μ) [29, 31, 32] 29 (rest := []) (P' := PW cA qx qm zs zt ((upd σ.1 1 rx.2.1), σ.2.1, (va_up σ.2.2.1 1 rx.2.2), σ.2.2.2.1, σ.2.2.2.2) (μ.1, μ.2.1, (va_up μ.2.2.1 1 rm.2), μ.2.2.2)) dL_law_268 (c_X9_cut (x_l X) cA (qm 0) (μ.1 0) (qm 1) (μ.1 1) (qm 4) (μ.1 2) (qm 5) (qm 6) (qm 7) (μ.1 3) (qm 8) (qm 9) (qm 10) (qm 11) (qm 12) (qm 13) (qm 14) (qm 15) (qm 16) (μ.2.1 0) (μ.2.1 1) (μ.2.1 2) (qm 2) (μ.2.2.1 1) (qm 3) (μ.2.2.1 2) (xs (5 * j + 1)) (xs (5 * j + 2)) rm hrm) kw_601 kw_602 kw_603 kw_343 kw_604 ok_X9_cut ⟨by decide, by decide⟩ hk2 ⟨rfl, rfl⟩ rfl rfl rfl rfl rfl (Nat.le_of_ble_eq_true rfl) rfl (N0 := 46) rfl [none, none, none, none, none, none, none, none, none, none, none, none, none, none, none, none, none, none, none, none, none, none, none, none, none, none, none, none, none, some 0, none, some 1, some 2, none, none, none, none, none, none, none, none, none, none, none, none, none] (by decide) rfl (st' := [.int rm.1]) rfl ?_
  refine g_pop C 271 dL_law_271 rfl ?_
  refine g_goto C 272 1030 dL_law_272 (by decide) ?_
  exact K zs zt SS TT kk nn hs ht (by omega) (by omega)

set_option maxRecDepth 100000 in
set_option maxHeartbeats 2000000 in
theorem op_3 {X : XT} {cA : Nat → ClassId} {b L : Nat} {xs : Nat → Int32} (C : Cx X cL_law RL (some .boolean) cA 2048 84000 4) (E : Sx X b L xs) (hL : L < 2 ^ 31) (qx qm : Nat → Nat) (j : Nat) (hj : 5 * j + 5 ≤ L) (zs zt : Value) (SS TT : va_W) (kk nn : Nat) (hk : kk + 50 ≤ (x_R X).cells ∧ nn + 8000 ≤ (x_R X).slots) (σ σ' : XS) (μ μ' : MS) (hs : HS cA σ zs SS) (ht : HT cA qx σ zt TT) (v w : Int32) (hx : sx_weigh (xs (5 * j + 1)) (xs (5 * j + 2)) σ = some (v, σ')) (hm : sm_weigh (xs (5 * j + 1)) (xs (5 * j + 2)) μ = some (w, μ')) (K : ∀ (zs' zt' : Value) (SS' TT' : va_W) (kk' nn' : Nat), HS cA σ' zs' SS' → HT cA qx σ' zt' TT' → kk' ≤ kk + 50 → nn' ≤ nn + 8000 → Go X 4 kk' nn' 1030 (PW cA qx qm zs' zt' σ' μ' ++ (SS' ++ TT')) [(0, .ref b), (1, .ref (qx 0)), (2, .ref (qm 0)), (3, .int (nI (5 * j)))] []) : Go X 4 kk nn 275 (PW cA qx qm zs zt σ μ ++ (SS ++ TT)) [(0, .ref b), (1, .ref (qx 0)), (2, .ref (qm 0)), (3, .int (nI (5 * j)))] [] := by
  unfold sx_weigh at hx
  obtain ⟨rx, hrx, hx⟩ := cal_some hx
  obtain ⟨e1, e2⟩ := some_pair hx
  subst e1
  subst e2
  unfold sm_weigh at hm
  obtain ⟨rm, hrm, hm⟩ := cal_some hm
  obtain ⟨e3, e4⟩ := some_pair hm
  subst e3
  subst e4
  have hk2 : kk ≤ (x_R X).cells ∧ nn ≤ (x_R X).slots := ⟨by omega, by omega⟩
  refine g_aload_n C 275 1 dL_law_275 rfl rfl ?_
  refine g_aload_n C 276 0 dL_law_276 rfl rfl ?_
  refine g_iload_n C 277 3 dL_law_277 rfl rfl ?_
  refine g_iconst C 278 (1 : Int32) dL_law_278 (by decide) ?_
  refine g_iadd C 279 dL_law_279 ?_
  refine g_sld C 280 E (5 * j + 1) dL_law_280 (nI_add (5 * j) 1) (by omega) hL ?_
  refine g_aload_n C 281 0 dL_law_281 rfl rfl ?_
  refine g_iload_n C 282 3 dL_law_282 rfl rfl ?_
  refine g_iconst C 283 (2 : Int32) dL_law_283 (by decide) ?_
  refine g_iadd C 284 dL_law_284 ?_
  refine g_sld C 285 E (5 * j + 2) dL_law_285 (nI_add (5 * j) 2) (by omega) hL ?_
  refine g_callB C 286 (P := PW cA qx qm zs zt σ μ) [0, 1, 2] 0 (rest := []) (P' := PW cA qx qm zs zt (σ.1, σ.2.1, (va_up σ.2.2.1 0 rx.2), σ.2.2.2.1, σ.2.2.2.2) μ) dL_law_286 (c_X8_weigh (x_l X) cA (qx 0) (qx 5) (qx 7) (qx 10) (qx 15) (qx 17) zs zt (qx 1) (qx 3) (qx 4) (σ.1 0) (σ.1 1) (qx 2) (σ.2.2.1 0) (xs (5 * j + 1)) (xs (5 * j + 2)) rx hrx) kw_605 kw_606 kw_607 kw_6 kw_608 ok_X8_weigh ⟨by decide, by decide⟩ hk2 ⟨rfl, rfl⟩ rfl rfl rfl rfl rfl (Nat.le_of_ble_eq_true rfl) rfl (N0 := 46) rfl [some 0, some 1, some 2, none, none, none, none, none, none, none, none, none, none, none, none, none, none, none, none, none, none, none, none, none, none, none, none, none, none, none, none, none, none, none, none, none, none, none, none, none, none, none, none, none, none, none] (by decide) rfl (st' := [.int rx.1]) rfl ?_
  refine g_pop C 289 dL_law_289 rfl ?_
  refine g_aload_n C 290 2 dL_law_290 rfl rfl ?_
  refine g_aload_n C 291 0 dL_law_291 rfl rfl ?_
  refine g_iload_n C 292 3 dL_law_292 rfl rfl ?_
  refine g_iconst C 293 (1 : Int32) dL_law_293 (by decide) ?_
  refine g_iadd C 294 dL_law_294 ?_
  refine g_sld C 295 E (5 * j + 1) dL_law_295 (nI_add (5 * j) 1) (by omega) hL ?_
  refine g_aload_n C 296 0 dL_law_296 rfl rfl ?_
  refine g_iload_n C 297 3 dL_law_297 rfl rfl ?_
  refine g_iconst C 298 (2 : Int32) dL_law_298 (by decide) ?_
  refine g_iadd C 299 dL_law_299 ?_
  refine g_sld C 300 E (5 * j + 2) dL_law_300 (nI_add (5 * j) 2) (by omega) hL ?_
  refine g_callB C 301 (P := PW cA qx qm zs zt (σ.1, σ.2.1, (va_up σ.2.2.1 0 rx.2), σ.2.2.2.1, σ.2.2.2.2) μ) [29, 30] 29 (rest := []) (P' := PW cA qx qm zs zt (σ.1, σ.2.1, (va_up σ.2.2.1 0 rx.2), σ.2.2.2.1, σ.2.2.2.2) (μ.1, μ.2.1, (va_up μ.2.2.1 0 rm.2), μ.2.2.2)) dL_law_301 (c_X9_weigh (x_l X) cA (qm 0) (μ.1 0) (qm 2) (qm 3) (μ.1 1) (qm 4) (μ.1 2) (qm 5) (qm 6) (qm 7) (μ.1 3) (qm 8) (qm 9) (qm 10) (qm 11) (qm 12) (qm 13) (qm 14) (qm 15) (qm 16) (μ.2.1 0) (μ.2.1 1) (μ.2.1 2) (qm 1) (μ.2.2.1 0) (xs (5 * j + 1)) (xs (5 * j + 2)) rm hrm) kw_609 kw_610 kw_611 kw_343 kw_612 ok_X9_weigh ⟨by decide, by decide⟩ hk2 ⟨rfl, rfl⟩ rfl rfl rfl rfl rfl (Nat.le_of_ble_eq_true rfl) rfl (N0 := 46) rfl [none, none, none, none, none, none, none, none, none, none, none, none, none, none, none, none, none, none, none, none, none, none, none, none, none, none, none, none, none, some 0, some 1, none, none, none, none, none, none, none, none, none, none, none, none, none, none, none] (by decide) rfl (st' := [.int rm.1]) rfl ?_
  refine g_pop C 304 dL_law_304 rfl ?_
  refine g_goto C 305 1030 dL_law_305 (by decide) ?_
  exact K zs zt SS TT kk nn hs ht (by omega) (by omega)

set_option maxRecDepth 100000 in
set_option maxHeartbeats 2000000 in
theorem op_4 {X : XT} {cA : Nat → ClassId} {b L : Nat} {xs : Nat → Int32} (C : Cx X cL_law RL (some .boolean) cA 2048 84000 4) (E : Sx X b L xs) (hL : L < 2 ^ 31) (qx qm : Nat → Nat) (j : Nat) (hj : 5 * j + 5 ≤ L) (zs zt : Value) (SS TT : va_W) (kk nn : Nat) (hk : kk + 50 ≤ (x_R X).cells ∧ nn + 8000 ≤ (x_R X).slots) (σ σ' : XS) (μ μ' : MS) (hs : HS cA σ zs SS) (ht : HT cA qx σ zt TT) (v w : Int32) (hx : sx_weight (xs (5 * j + 1)) (xs (5 * j + 2)) σ = some (v, σ')) (hm : sm_weight (xs (5 * j + 1)) (xs (5 * j + 2)) μ = some (w, μ')) (K : ∀ (zs' zt' : Value) (SS' TT' : va_W) (kk' nn' : Nat), HS cA σ' zs' SS' → HT cA qx σ' zt' TT' → kk' ≤ kk + 50 → nn' ≤ nn + 8000 → Go X 4 kk' nn' 1030 (PW cA qx qm zs' zt' σ' μ' ++ (SS' ++ TT')) [(0, .ref b), (1, .ref (qx 0)), (2, .ref (qm 0)), (3, .int (nI (5 * j)))] []) : Go X 4 kk nn 308 (PW cA qx qm zs zt σ μ ++ (SS ++ TT)) [(0, .ref b), (1, .ref (qx 0)), (2, .ref (qm 0)), (3, .int (nI (5 * j)))] [] := by
  unfold sx_weight at hx
  obtain ⟨rx, hrx, hx⟩ := cal_some hx
  obtain ⟨e1, e2⟩ := some_pair hx
  subst e1
  subst e2
  unfold sm_weight at hm
  obtain ⟨rm, hrm, hm⟩ := cal_some hm
  obtain ⟨e3, e4⟩ := some_pair hm
  subst e3
  subst e4
  have hk2 : kk ≤ (x_R X).cells ∧ nn ≤ (x_R X).slots := ⟨by omega, by omega⟩
  refine g_aload_n C 308 1 dL_law_308 rfl rfl ?_
  refine g_aload_n C 309 0 dL_law_309 rfl rfl ?_
  refine g_iload_n C 310 3 dL_law_310 rfl rfl ?_
  refine g_iconst C 311 (1 : Int32) dL_law_311 (by decide) ?_
  refine g_iadd C 312 dL_law_312 ?_
  refine g_sld C 313 E (5 * j + 1) dL_law_313 (nI_add (5 * j) 1) (by omega) hL ?_
  refine g_aload_n C 314 0 dL_law_314 rfl rfl ?_
  refine g_iload_n C 315 3 dL_law_315 rfl rfl ?_
  refine g_iconst C 316 (2 : Int32) dL_law_316 (by decide) ?_
  refine g_iadd C 317 dL_law_317 ?_
  refine g_sld C 318 E (5 * j + 2) dL_law_318 (nI_add (5 * j) 2) (by omega) hL ?_
  refine g_callB C 319 (P := PW cA qx qm zs zt σ μ) [0, 1, 2, 3, 4] 0 (rest := []) (P' := PW cA qx qm zs zt (σ.1, σ.2.1, σ.2.2.1, σ.2.2.2.1, σ.2.2.2.2) μ) dL_law_319 (c_X8_weight (x_l X) cA (qx 0) (qx 5) (qx 7) (qx 10) (qx 15) (qx 17) zs zt (qx 1) (σ.1 0) (σ.1 1) (qx 2) (σ.2.2.1 0) (qx 3) (σ.2.2.1 1) (qx 4) (σ.2.2.1 2) (xs (5 * j + 1)) (xs (5 * j + 2)) rx hrx) kw_613 kw_614 kw_615 kw_6 kw_616 ok_X8_weight ⟨by decide, by decide⟩ hk2 ⟨rfl, rfl⟩ rfl rfl rfl rfl rfl (Nat.le_of_ble_eq_true rfl) rfl (N0 := 46) rfl [some 0, some 1, some 2, some 3, some 4, none, none, none, none, none, none, none, none, none, none, none, none, none, none, none, none, none, none, none, none, none, none, none, none, none, none, none, none, none, none, none, none, none, none, none, none, none, none, none, none, none] (by decide) rfl (st' := [.int rx]) rfl ?_
  refine g_pop C 322 dL_law_322 rfl ?_
  refine g_aload_n C 323 2 dL_law_323 rfl rfl ?_
  refine g_aload_n C 324 0 dL_law_324 rfl rfl ?_
  refine g_iload_n C 325 3 dL_law_325 rfl rfl ?_
  refine g_iconst C 326 (1 : Int32) dL_law_326 (by decide) ?_
  refine g_iadd C 327 dL_law_327 ?_
  refine g_sld C 328 E (5 * j + 1) dL_law_328 (nI_add (5 * j) 1) (by omega) hL ?_
  refine g_aload_n C 329 0 dL_law_329 rfl rfl ?_
  refine g_iload_n C 330 3 dL_law_330 rfl rfl ?_
  refine g_iconst C 331 (2 : Int32) dL_law_331 (by decide) ?_
  refine g_iadd C 332 dL_law_332 ?_
  refine g_sld C 333 E (5 * j + 2) dL_law_333 (nI_add (5 * j) 2) (by omega) hL ?_
  refine g_callB C 334 (P := PW cA qx qm zs zt (σ.1, σ.2.1, σ.2.2.1, σ.2.2.2.1, σ.2.2.2.2) μ) [29, 30, 31, 32] 29 (rest := []) (P' := PW cA qx qm zs zt (σ.1, σ.2.1, σ.2.2.1, σ.2.2.2.1, σ.2.2.2.2) (μ.1, μ.2.1, μ.2.2.1, μ.2.2.2)) dL_law_334 (c_X9_weight (x_l X) cA (qm 0) (μ.1 0) (μ.1 1) (qm 4) (μ.1 2) (qm 5) (qm 6) (qm 7) (μ.1 3) (qm 8) (qm 9) (qm 10) (qm 11) (qm 12) (qm 13) (qm 14) (qm 15) (qm 16) (μ.2.1 0) (μ.2.1 1) (μ.2.1 2) (qm 1) (μ.2.2.1 0) (qm 2) (μ.2.2.1 1) (qm 3) (μ.2.2.1 2) (xs (5 * j + 1)) (xs (5 * j + 2)) rm hrm) kw_617 kw_618 kw_619 kw_343 kw_620 ok_X9_weight ⟨by decide, by decide⟩ hk2 ⟨rfl, rfl⟩ rfl rfl rfl rfl rfl (Nat.le_of_ble_eq_true rfl) rfl (N0 := 46) rfl [none, none, none, none, none, none, none, none, none, none, none, none, none, none, none, none, none, none, none, none, none, none, none, none, none, none, none, none, none, some 0, some 1, some 2, some 3, none, none, none, none, none, none, none, none, none, none, none, none, none] (by decide) rfl (st' := [.int rm]) rfl ?_
  refine g_pop C 337 dL_law_337 rfl ?_
  refine g_goto C 338 1030 dL_law_338 (by decide) ?_
  exact K zs zt SS TT kk nn hs ht (by omega) (by omega)

set_option maxRecDepth 100000 in
set_option maxHeartbeats 2000000 in
theorem op_5 {X : XT} {cA : Nat → ClassId} {b L : Nat} {xs : Nat → Int32} (C : Cx X cL_law RL (some .boolean) cA 2048 84000 4) (E : Sx X b L xs) (hL : L < 2 ^ 31) (qx qm : Nat → Nat) (j : Nat) (hj : 5 * j + 5 ≤ L) (zs zt : Value) (SS TT : va_W) (kk nn : Nat) (hk : kk + 50 ≤ (x_R X).cells ∧ nn + 8000 ≤ (x_R X).slots) (σ σ' : XS) (μ μ' : MS) (hs : HS cA σ zs SS) (ht : HT cA qx σ zt TT) (v w : Int32) (hx : sx_beside (xs (5 * j + 1)) σ = some (v, σ')) (hm : sm_beside (xs (5 * j + 1)) μ = some (w, μ')) (K : ∀ (zs' zt' : Value) (SS' TT' : va_W) (kk' nn' : Nat), HS cA σ' zs' SS' → HT cA qx σ' zt' TT' → kk' ≤ kk + 50 → nn' ≤ nn + 8000 → Go X 4 kk' nn' 1030 (PW cA qx qm zs' zt' σ' μ' ++ (SS' ++ TT')) [(0, .ref b), (1, .ref (qx 0)), (2, .ref (qm 0)), (3, .int (nI (5 * j)))] []) : Go X 4 kk nn 341 (PW cA qx qm zs zt σ μ ++ (SS ++ TT)) [(0, .ref b), (1, .ref (qx 0)), (2, .ref (qm 0)), (3, .int (nI (5 * j)))] [] := by
  unfold sx_beside at hx
  obtain ⟨rx, hrx, hx⟩ := cal_some hx
  obtain ⟨e1, e2⟩ := some_pair hx
  subst e1
  subst e2
  unfold sm_beside at hm
  obtain ⟨rm, hrm, hm⟩ := cal_some hm
  obtain ⟨e3, e4⟩ := some_pair hm
  subst e3
  subst e4
  have hk2 : kk ≤ (x_R X).cells ∧ nn ≤ (x_R X).slots := ⟨by omega, by omega⟩
  refine g_aload_n C 341 1 dL_law_341 rfl rfl ?_
  refine g_aload_n C 342 0 dL_law_342 rfl rfl ?_
  refine g_iload_n C 343 3 dL_law_343 rfl rfl ?_
  refine g_iconst C 344 (1 : Int32) dL_law_344 (by decide) ?_
  refine g_iadd C 345 dL_law_345 ?_
  refine g_sld C 346 E (5 * j + 1) dL_law_346 (nI_add (5 * j) 1) (by omega) hL ?_
  refine g_callB C 347 (P := PW cA qx qm zs zt σ μ) [0, 1, 3] 0 (rest := []) (P' := PW cA qx qm zs zt (σ.1, σ.2.1, σ.2.2.1, σ.2.2.2.1, σ.2.2.2.2) μ) dL_law_347 (c_X8_beside (x_l X) cA (qx 0) (qx 5) (qx 7) (qx 10) (qx 15) (qx 17) zs zt (qx 1) (qx 2) (qx 4) (σ.1 0) (σ.1 1) (qx 3) (σ.2.2.1 1) (xs (5 * j + 1)) rx hrx) kw_621 kw_622 kw_623 kw_6 kw_624 ok_X8_beside ⟨by decide, by decide⟩ hk2 ⟨rfl, rfl⟩ rfl rfl rfl rfl rfl (Nat.le_of_ble_eq_true rfl) rfl (N0 := 46) rfl [some 0, some 1, none, some 2, none, none, none, none, none, none, none, none, none, none, none, none, none, none, none, none, none, none, none, none, none, none, none, none, none, none, none, none, none, none, none, none, none, none, none, none, none, none, none, none, none, none] (by decide) rfl (st' := [.int rx]) rfl ?_
  refine g_pop C 350 dL_law_350 rfl ?_
  refine g_aload_n C 351 2 dL_law_351 rfl rfl ?_
  refine g_aload_n C 352 0 dL_law_352 rfl rfl ?_
  refine g_iload_n C 353 3 dL_law_353 rfl rfl ?_
  refine g_iconst C 354 (1 : Int32) dL_law_354 (by decide) ?_
  refine g_iadd C 355 dL_law_355 ?_
  refine g_sld C 356 E (5 * j + 1) dL_law_356 (nI_add (5 * j) 1) (by omega) hL ?_
  refine g_callB C 357 (P := PW cA qx qm zs zt (σ.1, σ.2.1, σ.2.2.1, σ.2.2.2.1, σ.2.2.2.2) μ) [29, 31] 29 (rest := []) (P' := PW cA qx qm zs zt (σ.1, σ.2.1, σ.2.2.1, σ.2.2.2.1, σ.2.2.2.2) (μ.1, μ.2.1, μ.2.2.1, μ.2.2.2)) dL_law_357 (c_X9_beside (x_l X) cA (qm 0) (μ.1 0) (qm 1) (qm 3) (μ.1 1) (qm 4) (μ.1 2) (qm 5) (qm 6) (qm 7) (μ.1 3) (qm 8) (qm 9) (qm 10) (qm 11) (qm 12) (qm 13) (qm 14) (qm 15) (qm 16) (μ.2.1 0) (μ.2.1 1) (μ.2.1 2) (qm 2) (μ.2.2.1 1) (xs (5 * j + 1)) rm hrm) kw_625 kw_626 kw_627 kw_343 kw_628 ok_X9_beside ⟨by decide, by decide⟩ hk2 ⟨rfl, rfl⟩ rfl rfl rfl rfl rfl (Nat.le_of_ble_eq_true rfl) rfl (N0 := 46) rfl [none, none, none, none, none, none, none, none, none, none, none, none, none, none, none, none, none, none, none, none, none, none, none, none, none, none, none, none, none, some 0, none, some 1, none, none, none, none, none, none, none, none, none, none, none, none, none, none] (by decide) rfl (st' := [.int rm]) rfl ?_
  refine g_pop C 360 dL_law_360 rfl ?_
  refine g_goto C 361 1030 dL_law_361 (by decide) ?_
  exact K zs zt SS TT kk nn hs ht (by omega) (by omega)

set_option maxRecDepth 100000 in
set_option maxHeartbeats 2000000 in
theorem op_6 {X : XT} {cA : Nat → ClassId} {b L : Nat} {xs : Nat → Int32} (C : Cx X cL_law RL (some .boolean) cA 2048 84000 4) (E : Sx X b L xs) (hL : L < 2 ^ 31) (qx qm : Nat → Nat) (j : Nat) (hj : 5 * j + 5 ≤ L) (zs zt : Value) (SS TT : va_W) (kk nn : Nat) (hk : kk + 50 ≤ (x_R X).cells ∧ nn + 8000 ≤ (x_R X).slots) (σ σ' : XS) (μ μ' : MS) (hs : HS cA σ zs SS) (ht : HT cA qx σ zt TT) (v w : Int32) (hx : sx_put (xs (5 * j + 1)) σ = some (v, σ')) (hm : sm_put (xs (5 * j + 1)) μ = some (w, μ')) (K : ∀ (zs' zt' : Value) (SS' TT' : va_W) (kk' nn' : Nat), HS cA σ' zs' SS' → HT cA qx σ' zt' TT' → kk' ≤ kk + 50 → nn' ≤ nn + 8000 → Go X 4 kk' nn' 1030 (PW cA qx qm zs' zt' σ' μ' ++ (SS' ++ TT')) [(0, .ref b), (1, .ref (qx 0)), (2, .ref (qm 0)), (3, .int (nI (5 * j)))] []) : Go X 4 kk nn 364 (PW cA qx qm zs zt σ μ ++ (SS ++ TT)) [(0, .ref b), (1, .ref (qx 0)), (2, .ref (qm 0)), (3, .int (nI (5 * j)))] [] := by
  unfold sx_put at hx
  obtain ⟨rx, hrx, hx⟩ := cal_some hx
  obtain ⟨e1, e2⟩ := some_pair hx
  subst e1
  subst e2
  unfold sm_put at hm
  obtain ⟨rm, hrm, hm⟩ := cal_some hm
  obtain ⟨e3, e4⟩ := some_pair hm
  subst e3
  subst e4
  have hk2 : kk ≤ (x_R X).cells ∧ nn ≤ (x_R X).slots := ⟨by omega, by omega⟩
  refine g_aload_n C 364 1 dL_law_364 rfl rfl ?_
  refine g_aload_n C 365 0 dL_law_365 rfl rfl ?_
  refine g_iload_n C 366 3 dL_law_366 rfl rfl ?_
  refine g_iconst C 367 (1 : Int32) dL_law_367 (by decide) ?_
  refine g_iadd C 368 dL_law_368 ?_
  refine g_sld C 369 E (5 * j + 1) dL_law_369 (nI_add (5 * j) 1) (by omega) hL ?_
  refine g_callB C 370 (P := PW cA qx qm zs zt σ μ) [0, 1, 5, 6] 0 (rest := []) (P' := PW cA qx qm zs zt ((upd (upd σ.1 2 rx.2.1) 3 rx.2.2.1), σ.2.1, (va_up σ.2.2.1 3 rx.2.2.2), σ.2.2.2.1, σ.2.2.2.2) μ) dL_law_370 (c_X8_put (x_l X) cA (qx 0) (qx 7) (qx 10) (qx 15) (qx 17) zs zt (qx 1) (qx 2) (qx 3) (qx 4) (σ.1 0) (σ.1 1) (qx 5) (σ.1 2) (σ.1 3) (qx 6) (σ.2.2.1 3) (xs (5 * j + 1)) rx hrx) kw_629 kw_630 kw_631 kw_6 kw_632 ok_X8_put ⟨by decide, by decide⟩ hk2 ⟨rfl, rfl⟩ rfl rfl rfl rfl rfl (Nat.le_of_ble_eq_true rfl) rfl (N0 := 46) rfl [some 0, some 1, none, none, none, some 2, some 3, none, none, none, none, none, none, none, none, none, none, none, none, none, none, none, none, none, none, none, none, none, none, none, none, none, none, none, none, none, none, none, none, none, none, none, none, none, none, none] (by decide) rfl (st' := [.int rx.1]) rfl ?_
  refine g_pop C 373 dL_law_373 rfl ?_
  refine g_aload_n C 374 2 dL_law_374 rfl rfl ?_
  refine g_aload_n C 375 0 dL_law_375 rfl rfl ?_
  refine g_iload_n C 376 3 dL_law_376 rfl rfl ?_
  refine g_iconst C 377 (1 : Int32) dL_law_377 (by decide) ?_
  refine g_iadd C 378 dL_law_378 ?_
  refine g_sld C 379 E (5 * j + 1) dL_law_379 (nI_add (5 * j) 1) (by omega) hL ?_
  refine g_callB C 380 (P := PW cA qx qm zs zt ((upd (upd σ.1 2 rx.2.1) 3 rx.2.2.1), σ.2.1, (va_up σ.2.2.1 3 rx.2.2.2), σ.2.2.2.1, σ.2.2.2.2) μ) [29, 33] 29 (rest := []) (P' := PW cA qx qm zs zt ((upd (upd σ.1 2 rx.2.1) 3 rx.2.2.1), σ.2.1, (va_up σ.2.2.1 3 rx.2.2.2), σ.2.2.2.1, σ.2.2.2.2) ((upd μ.1 1 rm.2.1), μ.2.1, (va_up μ.2.2.1 3 rm.2.2), μ.2.2.2)) dL_law_380 (c_X9_put (x_l X) cA (qm 0) (μ.1 0) (qm 1) (qm 2) (qm 3) (μ.1 1) (μ.1 2) (qm 5) (qm 6) (qm 7) (μ.1 3) (qm 8) (qm 9) (qm 10) (qm 11) (qm 12) (qm 13) (qm 14) (qm 15) (qm 16) (μ.2.1 0) (μ.2.1 1) (μ.2.1 2) (qm 4) (μ.2.2.1 3) (xs (5 * j + 1)) rm hrm) kw_633 kw_634 kw_635 kw_343 kw_636 ok_X9_put ⟨by decide, by decide⟩ hk2 ⟨rfl, rfl⟩ rfl rfl rfl rfl rfl (Nat.le_of_ble_eq_true rfl) rfl (N0 := 46) rfl [none, none, none, none, none, none, none, none, none, none, none, none, none, none, none, none, none, none, none, none, none, none, none, none, none, none, none, none, none, some 0, none, none, none, some 1, none, none, none, none, none, none, none, none, none, none, none, none] (by decide) rfl (st' := [.int rm.1]) rfl ?_
  refine g_pop C 383 dL_law_383 rfl ?_
  refine g_goto C 384 1030 dL_law_384 (by decide) ?_
  exact K zs zt SS TT kk nn hs ht (by omega) (by omega)

set_option maxRecDepth 100000 in
set_option maxHeartbeats 2000000 in
theorem op_7 {X : XT} {cA : Nat → ClassId} {b L : Nat} {xs : Nat → Int32} (C : Cx X cL_law RL (some .boolean) cA 2048 84000 4) (E : Sx X b L xs) (hL : L < 2 ^ 31) (qx qm : Nat → Nat) (j : Nat) (hj : 5 * j + 5 ≤ L) (zs zt : Value) (SS TT : va_W) (kk nn : Nat) (hk : kk + 50 ≤ (x_R X).cells ∧ nn + 8000 ≤ (x_R X).slots) (σ σ' : XS) (μ μ' : MS) (hs : HS cA σ zs SS) (ht : HT cA qx σ zt TT) (v w : Int32) (hx : sx_wipe  σ = some (v, σ')) (hm : sm_wipe  μ = some (w, μ')) (K : ∀ (zs' zt' : Value) (SS' TT' : va_W) (kk' nn' : Nat), HS cA σ' zs' SS' → HT cA qx σ' zt' TT' → kk' ≤ kk + 50 → nn' ≤ nn + 8000 → Go X 4 kk' nn' 1030 (PW cA qx qm zs' zt' σ' μ' ++ (SS' ++ TT')) [(0, .ref b), (1, .ref (qx 0)), (2, .ref (qm 0)), (3, .int (nI (5 * j)))] []) : Go X 4 kk nn 387 (PW cA qx qm zs zt σ μ ++ (SS ++ TT)) [(0, .ref b), (1, .ref (qx 0)), (2, .ref (qm 0)), (3, .int (nI (5 * j)))] [] := by
  unfold sx_wipe at hx
  obtain ⟨rx, hrx, hx⟩ := cal_some hx
  obtain ⟨e1, e2⟩ := some_pair hx
  subst e1
  subst e2
  unfold sm_wipe at hm
  obtain ⟨rm, hrm, hm⟩ := cal_some hm
  obtain ⟨e3, e4⟩ := some_pair hm
  subst e3
  subst e4
  have hk2 : kk ≤ (x_R X).cells ∧ nn ≤ (x_R X).slots := ⟨by omega, by omega⟩
  refine g_aload_n C 387 1 dL_law_387 rfl rfl ?_
  refine g_callB C 388 (P := PW cA qx qm zs zt σ μ) [0, 5] 0 (rest := []) (P' := PW cA qx qm zs zt ((upd (upd σ.1 2 rx.2.1) 3 rx.2.2), σ.2.1, σ.2.2.1, σ.2.2.2.1, σ.2.2.2.2) μ) dL_law_388 (c_X8_wipe (x_l X) cA (qx 0) (qx 1) (qx 7) (qx 10) (qx 15) (qx 17) zs zt (qx 5) (qx 6) (σ.1 2) (σ.1 3)  rx hrx) kw_637 kw_638 kw_639 kw_6 kw_640 ok_X8_wipe ⟨by decide, by decide⟩ hk2 ⟨rfl, rfl⟩ rfl rfl rfl rfl rfl (Nat.le_of_ble_eq_true rfl) rfl (N0 := 46) rfl [some 0, none, none, none, none, some 1, none, none, none, none, none, none, none, none, none, none, none, none, none, none, none, none, none, none, none, none, none, none, none, none, none, none, none, none, none, none, none, none, none, none, none, none, none, none, none, none] (by decide) rfl (st' := [.int rx.1]) rfl ?_
  refine g_pop C 391 dL_law_391 rfl ?_
  refine g_aload_n C 392 2 dL_law_392 rfl rfl ?_
  refine g_callB C 393 (P := PW cA qx qm zs zt ((upd (upd σ.1 2 rx.2.1) 3 rx.2.2), σ.2.1, σ.2.2.1, σ.2.2.2.1, σ.2.2.2.2) μ) [29] 29 (rest := []) (P' := PW cA qx qm zs zt ((upd (upd σ.1 2 rx.2.1) 3 rx.2.2), σ.2.1, σ.2.2.1, σ.2.2.2.1, σ.2.2.2.2) ((upd μ.1 1 rm.2), μ.2.1, μ.2.2.1, μ.2.2.2)) dL_law_393 (c_X9_wipe (x_l X) cA (qm 0) (μ.1 0) (qm 1) (qm 2) (qm 3) (μ.1 1) (qm 4) (μ.1 2) (qm 5) (qm 6) (qm 7) (μ.1 3) (qm 8) (qm 9) (qm 10) (qm 11) (qm 12) (qm 13) (qm 14) (qm 15) (qm 16) (μ.2.1 0) (μ.2.1 1) (μ.2.1 2)  rm hrm) kw_641 kw_642 kw_643 kw_343 kw_644 ok_X9_wipe ⟨by decide, by decide⟩ hk2 ⟨rfl, rfl⟩ rfl rfl rfl rfl rfl (Nat.le_of_ble_eq_true rfl) rfl (N0 := 46) rfl [none, none, none, none, none, none, none, none, none, none, none, none, none, none, none, none, none, none, none, none, none, none, none, none, none, none, none, none, none, some 0, none, none, none, none, none, none, none, none, none, none, none, none, none, none, none, none] (by decide) rfl (st' := [.int rm.1]) rfl ?_
  refine g_pop C 396 dL_law_396 rfl ?_
  refine g_goto C 397 1030 dL_law_397 (by decide) ?_
  exact K zs zt SS TT kk nn hs ht (by omega) (by omega)

set_option maxRecDepth 100000 in
set_option maxHeartbeats 2000000 in
theorem op_8 {X : XT} {cA : Nat → ClassId} {b L : Nat} {xs : Nat → Int32} (C : Cx X cL_law RL (some .boolean) cA 2048 84000 4) (E : Sx X b L xs) (hL : L < 2 ^ 31) (qx qm : Nat → Nat) (j : Nat) (hj : 5 * j + 5 ≤ L) (zs zt : Value) (SS TT : va_W) (kk nn : Nat) (hk : kk + 50 ≤ (x_R X).cells ∧ nn + 8000 ≤ (x_R X).slots) (σ σ' : XS) (μ μ' : MS) (hs : HS cA σ zs SS) (ht : HT cA qx σ zt TT) (v w : Int32) (hx : sx_make  σ = some (v, σ')) (hm : sm_make  μ = some (w, μ')) (K : ∀ (zs' zt' : Value) (SS' TT' : va_W) (kk' nn' : Nat), HS cA σ' zs' SS' → HT cA qx σ' zt' TT' → kk' ≤ kk + 50 → nn' ≤ nn + 8000 → Go X 4 kk' nn' 1030 (PW cA qx qm zs' zt' σ' μ' ++ (SS' ++ TT')) [(0, .ref b), (1, .ref (qx 0)), (2, .ref (qm 0)), (3, .int (nI (5 * j)))] []) : Go X 4 kk nn 400 (PW cA qx qm zs zt σ μ ++ (SS ++ TT)) [(0, .ref b), (1, .ref (qx 0)), (2, .ref (qm 0)), (3, .int (nI (5 * j)))] [] := by
  unfold sx_make at hx
  obtain ⟨rx, hrx, hx⟩ := cal_some hx
  obtain ⟨e1, e2⟩ := some_pair hx
  subst e1
  subst e2
  unfold sm_make at hm
  obtain ⟨rm, hrm, hm⟩ := cal_some hm
  obtain ⟨e3, e4⟩ := some_pair hm
  subst e3
  subst e4
  have hk2 : kk ≤ (x_R X).cells ∧ nn ≤ (x_R X).slots := ⟨by omega, by omega⟩
  refine g_aload_n C 400 1 dL_law_400 rfl rfl ?_
  refine g_callB C 401 (P := PW cA qx qm zs zt σ μ) [0, 1, 3, 5, 6, 7, 8, 9, 15, 16] 0 (rest := []) (P' := PW cA qx qm zs zt ((upd (upd (upd σ.1 4 rx.2.1) 6 rx.2.2.2.2.1) 7 rx.2.2.2.2.2.1), σ.2.1, (va_up (va_up (va_up σ.2.2.1 4 rx.2.2.1) 5 rx.2.2.2.1) 10 rx.2.2.2.2.2.2), σ.2.2.2.1, σ.2.2.2.2) μ) dL_law_401 (c_X8_make (x_l X) cA (qx 0) (qx 10) (qx 17) zs zt (qx 1) (qx 2) (qx 4) (σ.1 0) (σ.1 1) (qx 3) (σ.2.2.1 1) (qx 5) (σ.1 2) (σ.1 3) (qx 6) (σ.2.2.1 3) (qx 7) (σ.1 4) (qx 8) (σ.2.2.1 4) (qx 9) (σ.2.2.1 5) (qx 15) (σ.1 6) (σ.1 7) (qx 16) (σ.2.2.1 10)  rx hrx) kw_645 kw_646 kw_647 kw_6 kw_648 ok_X8_make ⟨by decide, by decide⟩ hk2 ⟨rfl, rfl⟩ rfl rfl rfl rfl rfl (Nat.le_of_ble_eq_true rfl) rfl (N0 := 46) rfl [some 0, some 1, none, some 2, none, some 3, some 4, some 5, some 6, some 7, none, none, none, none, none, some 8, some 9, none, none, none, none, none, none, none, none, none, none, none, none, none, none, none, none, none, none, none, none, none, none, none, none, none, none, none, none, none] (by decide) rfl (st' := [.int rx.1]) rfl ?_
  refine g_pop C 404 dL_law_404 rfl ?_
  refine g_aload_n C 405 2 dL_law_405 rfl rfl ?_
  refine g_callB C 406 (P := PW cA qx qm zs zt ((upd (upd (upd σ.1 4 rx.2.1) 6 rx.2.2.2.2.1) 7 rx.2.2.2.2.2.1), σ.2.1, (va_up (va_up (va_up σ.2.2.1 4 rx.2.2.1) 5 rx.2.2.2.1) 10 rx.2.2.2.2.2.2), σ.2.2.2.1, σ.2.2.2.2) μ) [29, 31, 33, 34, 35] 29 (rest := []) (P' := PW cA qx qm zs zt ((upd (upd (upd σ.1 4 rx.2.1) 6 rx.2.2.2.2.1) 7 rx.2.2.2.2.2.1), σ.2.1, (va_up (va_up (va_up σ.2.2.1 4 rx.2.2.1) 5 rx.2.2.2.1) 10 rx.2.2.2.2.2.2), σ.2.2.2.1, σ.2.2.2.2) ((upd μ.1 2 rm.2.1), μ.2.1, (va_up (va_up μ.2.2.1 4 rm.2.2.1) 5 rm.2.2.2), μ.2.2.2)) dL_law_406 (c_X9_make (x_l X) cA (qm 0) (μ.1 0) (qm 1) (qm 3) (μ.1 1) (μ.1 2) (qm 7) (μ.1 3) (qm 8) (qm 9) (qm 10) (qm 11) (qm 12) (qm 13) (qm 14) (qm 15) (qm 16) (μ.2.1 0) (μ.2.1 1) (μ.2.1 2) (qm 2) (μ.2.2.1 1) (qm 4) (μ.2.2.1 3) (qm 5) (μ.2.2.1 4) (qm 6) (μ.2.2.1 5)  rm hrm) kw_649 kw_650 kw_651 kw_343 kw_652 ok_X9_make ⟨by decide, by decide⟩ hk2 ⟨rfl, rfl⟩ rfl rfl rfl rfl rfl (Nat.le_of_ble_eq_true rfl) rfl (N0 := 46) rfl [none, none, none, none, none, none, none, none, none, none, none, none, none, none, none, none, none, none, none, none, none, none, none, none, none, none, none, none, none, some 0, none, some 1, none, some 2, some 3, some 4, none, none, none, none, none, none, none, none, none, none] (by decide) rfl (st' := [.int rm.1]) rfl ?_
  refine g_pop C 409 dL_law_409 rfl ?_
  refine g_goto C 410 1030 dL_law_410 (by decide) ?_
  exact K zs zt SS TT kk nn hs ht (by omega) (by omega)

set_option maxRecDepth 100000 in
set_option maxHeartbeats 2000000 in
theorem op_9 {X : XT} {cA : Nat → ClassId} {b L : Nat} {xs : Nat → Int32} (C : Cx X cL_law RL (some .boolean) cA 2048 84000 4) (E : Sx X b L xs) (hL : L < 2 ^ 31) (qx qm : Nat → Nat) (j : Nat) (hj : 5 * j + 5 ≤ L) (zs zt : Value) (SS TT : va_W) (kk nn : Nat) (hk : kk + 50 ≤ (x_R X).cells ∧ nn + 8000 ≤ (x_R X).slots) (σ σ' : XS) (μ μ' : MS) (hs : HS cA σ zs SS) (ht : HT cA qx σ zt TT) (v w : Int32) (hx : sx_fills  σ = some (v, σ')) (hm : sm_fills  μ = some (w, μ')) (K : ∀ (zs' zt' : Value) (SS' TT' : va_W) (kk' nn' : Nat), HS cA σ' zs' SS' → HT cA qx σ' zt' TT' → kk' ≤ kk + 50 → nn' ≤ nn + 8000 → Go X 4 kk' nn' 1030 (PW cA qx qm zs' zt' σ' μ' ++ (SS' ++ TT')) [(0, .ref b), (1, .ref (qx 0)), (2, .ref (qm 0)), (3, .int (nI (5 * j)))] []) : Go X 4 kk nn 413 (PW cA qx qm zs zt σ μ ++ (SS ++ TT)) [(0, .ref b), (1, .ref (qx 0)), (2, .ref (qm 0)), (3, .int (nI (5 * j)))] [] := by
  unfold sx_fills at hx
  obtain ⟨rx, hrx, hx⟩ := cal_some hx
  obtain ⟨e1, e2⟩ := some_pair hx
  subst e1
  subst e2
  unfold sm_fills at hm
  obtain ⟨rm, hrm, hm⟩ := cal_some hm
  obtain ⟨e3, e4⟩ := some_pair hm
  subst e3
  subst e4
  have hk2 : kk ≤ (x_R X).cells ∧ nn ≤ (x_R X).slots := ⟨by omega, by omega⟩
  refine g_aload_n C 413 1 dL_law_413 rfl rfl ?_
  refine g_callB C 414 (P := PW cA qx qm zs zt σ μ) [0, 1, 3, 5, 6, 15, 16] 0 (rest := []) (P' := PW cA qx qm zs zt ((upd (upd σ.1 6 rx.2.1) 7 rx.2.2.1), σ.2.1, (va_up σ.2.2.1 10 rx.2.2.2), σ.2.2.2.1, σ.2.2.2.2) μ) dL_law_414 (c_X8_fills (x_l X) cA (qx 0) (qx 7) (qx 10) (qx 17) zs zt (qx 1) (qx 2) (qx 4) (σ.1 0) (σ.1 1) (qx 3) (σ.2.2.1 1) (qx 5) (σ.1 2) (σ.1 3) (qx 6) (σ.2.2.1 3) (qx 15) (σ.1 6) (σ.1 7) (qx 16) (σ.2.2.1 10)  rx hrx) kw_653 kw_654 kw_655 kw_6 kw_656 ok_X8_fills ⟨by decide, by decide⟩ hk2 ⟨rfl, rfl⟩ rfl rfl rfl rfl rfl (Nat.le_of_ble_eq_true rfl) rfl (N0 := 46) rfl [some 0, some 1, none, some 2, none, some 3, some 4, none, none, none, none, none, none, none, none, some 5, some 6, none, none, none, none, none, none, none, none, none, none, none, none, none, none, none, none, none, none, none, none, none, none, none, none, none, none, none, none, none] (by decide) rfl (st' := [.int rx.1]) rfl ?_
  refine g_pop C 417 dL_law_417 rfl ?_
  refine g_aload_n C 418 2 dL_law_418 rfl rfl ?_
  refine g_callB C 419 (P := PW cA qx qm zs zt ((upd (upd σ.1 6 rx.2.1) 7 rx.2.2.1), σ.2.1, (va_up σ.2.2.1 10 rx.2.2.2), σ.2.2.2.1, σ.2.2.2.2) μ) [29, 31, 33] 29 (rest := []) (P' := PW cA qx qm zs zt ((upd (upd σ.1 6 rx.2.1) 7 rx.2.2.1), σ.2.1, (va_up σ.2.2.1 10 rx.2.2.2), σ.2.2.2.1, σ.2.2.2.2) (μ.1, μ.2.1, μ.2.2.1, μ.2.2.2)) dL_law_419 (c_X9_fills (x_l X) cA (qm 0) (μ.1 0) (qm 1) (qm 3) (μ.1 1) (μ.1 2) (qm 5) (qm 6) (qm 7) (μ.1 3) (qm 8) (qm 9) (qm 10) (qm 11) (qm 12) (qm 13) (qm 14) (qm 15) (qm 16) (μ.2.1 0) (μ.2.1 1) (μ.2.1 2) (qm 2) (μ.2.2.1 1) (qm 4) (μ.2.2.1 3)  rm hrm) kw_657 kw_658 kw_659 kw_343 kw_660 ok_X9_fills ⟨by decide, by decide⟩ hk2 ⟨rfl, rfl⟩ rfl rfl rfl rfl rfl (Nat.le_of_ble_eq_true rfl) rfl (N0 := 46) rfl [none, none, none, none, none, none, none, none, none, none, none, none, none, none, none, none, none, none, none, none, none, none, none, none, none, none, none, none, none, some 0, none, some 1, none, some 2, none, none, none, none, none, none, none, none, none, none, none, none] (by decide) rfl (st' := [.int rm]) rfl ?_
  refine g_pop C 422 dL_law_422 rfl ?_
  refine g_goto C 423 1030 dL_law_423 (by decide) ?_
  exact K zs zt SS TT kk nn hs ht (by omega) (by omega)

set_option maxRecDepth 100000 in
set_option maxHeartbeats 2000000 in
theorem op_10 {X : XT} {cA : Nat → ClassId} {b L : Nat} {xs : Nat → Int32} (C : Cx X cL_law RL (some .boolean) cA 2048 84000 4) (E : Sx X b L xs) (hL : L < 2 ^ 31) (qx qm : Nat → Nat) (j : Nat) (hj : 5 * j + 5 ≤ L) (zs zt : Value) (SS TT : va_W) (kk nn : Nat) (hk : kk + 50 ≤ (x_R X).cells ∧ nn + 8000 ≤ (x_R X).slots) (σ σ' : XS) (μ μ' : MS) (hs : HS cA σ zs SS) (ht : HT cA qx σ zt TT) (v w : Int32) (hx : sx_fewest  σ = some (v, σ')) (hm : sm_fewest  μ = some (w, μ')) (K : ∀ (zs' zt' : Value) (SS' TT' : va_W) (kk' nn' : Nat), HS cA σ' zs' SS' → HT cA qx σ' zt' TT' → kk' ≤ kk + 50 → nn' ≤ nn + 8000 → Go X 4 kk' nn' 1030 (PW cA qx qm zs' zt' σ' μ' ++ (SS' ++ TT')) [(0, .ref b), (1, .ref (qx 0)), (2, .ref (qm 0)), (3, .int (nI (5 * j)))] []) : Go X 4 kk nn 426 (PW cA qx qm zs zt σ μ ++ (SS ++ TT)) [(0, .ref b), (1, .ref (qx 0)), (2, .ref (qm 0)), (3, .int (nI (5 * j)))] [] := by
  unfold sx_fewest at hx
  obtain ⟨rx, hrx, hx⟩ := cal_some hx
  obtain ⟨e1, e2⟩ := some_pair hx
  subst e1
  subst e2
  unfold sm_fewest at hm
  obtain ⟨rm, hrm, hm⟩ := cal_some hm
  obtain ⟨e3, e4⟩ := some_pair hm
  subst e3
  subst e4
  have hk2 : kk ≤ (x_R X).cells ∧ nn ≤ (x_R X).slots := ⟨by omega, by omega⟩
  refine g_aload_n C 426 1 dL_law_426 rfl rfl ?_
  refine g_callB C 427 (P := PW cA qx qm zs zt σ μ) [0, 1, 3, 5, 6, 15, 16] 0 (rest := []) (P' := PW cA qx qm zs zt ((upd (upd (upd (upd σ.1 2 rx.2.1) 3 rx.2.2.1) 6 rx.2.2.2.2.1) 7 rx.2.2.2.2.2.1), σ.2.1, (va_up (va_up σ.2.2.1 3 rx.2.2.2.1) 10 rx.2.2.2.2.2.2), σ.2.2.2.1, σ.2.2.2.2) μ) dL_law_427 (c_X8_fewest (x_l X) cA (qx 0) (qx 7) (qx 10) (qx 17) zs zt (qx 1) (qx 2) (qx 4) (σ.1 0) (σ.1 1) (qx 3) (σ.2.2.1 1) (qx 5) (σ.1 2) (σ.1 3) (qx 6) (σ.2.2.1 3) (qx 15) (σ.1 6) (σ.1 7) (qx 16) (σ.2.2.1 10)  rx hrx) kw_661 kw_662 kw_663 kw_6 kw_664 ok_X8_fewest ⟨by decide, by decide⟩ hk2 ⟨rfl, rfl⟩ rfl rfl rfl rfl rfl (Nat.le_of_ble_eq_true rfl) rfl (N0 := 46) rfl [some 0, some 1, none, some 2, none, some 3, some 4, none, none, none, none, none, none, none, none, some 5, some 6, none, none, none, none, none, none, none, none, none, none, none, none, none, none, none, none, none, none, none, none, none, none, none, none, none, none, none, none, none] (by decide) rfl (st' := [.int rx.1]) rfl ?_
  refine g_pop C 430 dL_law_430 rfl ?_
  refine g_aload_n C 431 2 dL_law_431 rfl rfl ?_
  refine g_callB C 432 (P := PW cA qx qm zs zt ((upd (upd (upd (upd σ.1 2 rx.2.1) 3 rx.2.2.1) 6 rx.2.2.2.2.1) 7 rx.2.2.2.2.2.1), σ.2.1, (va_up (va_up σ.2.2.1 3 rx.2.2.2.1) 10 rx.2.2.2.2.2.2), σ.2.2.2.1, σ.2.2.2.2) μ) [29, 31, 33] 29 (rest := []) (P' := PW cA qx qm zs zt ((upd (upd (upd (upd σ.1 2 rx.2.1) 3 rx.2.2.1) 6 rx.2.2.2.2.1) 7 rx.2.2.2.2.2.1), σ.2.1, (va_up (va_up σ.2.2.1 3 rx.2.2.2.1) 10 rx.2.2.2.2.2.2), σ.2.2.2.1, σ.2.2.2.2) ((upd μ.1 1 rm.2.1), μ.2.1, (va_up μ.2.2.1 3 rm.2.2), μ.2.2.2)) dL_law_432 (c_X9_fewest (x_l X) cA (qm 0) (μ.1 0) (qm 1) (qm 3) (μ.1 1) (μ.1 2) (qm 5) (qm 6) (qm 7) (μ.1 3) (qm 8) (qm 9) (qm 10) (qm 11) (qm 12) (qm 13) (qm 14) (qm 15) (qm 16) (μ.2.1 0) (μ.2.1 1) (μ.2.1 2) (qm 2) (μ.2.2.1 1) (qm 4) (μ.2.2.1 3)  rm hrm) kw_665 kw_666 kw_667 kw_343 kw_668 ok_X9_fewest ⟨by decide, by decide⟩ hk2 ⟨rfl, rfl⟩ rfl rfl rfl rfl rfl (Nat.le_of_ble_eq_true rfl) rfl (N0 := 46) rfl [none, none, none, none, none, none, none, none, none, none, none, none, none, none, none, none, none, none, none, none, none, none, none, none, none, none, none, none, none, some 0, none, some 1, none, some 2, none, none, none, none, none, none, none, none, none, none, none, none] (by decide) rfl (st' := [.int rm.1]) rfl ?_
  refine g_pop C 435 dL_law_435 rfl ?_
  refine g_goto C 436 1030 dL_law_436 (by decide) ?_
  exact K zs zt SS TT kk nn hs ht (by omega) (by omega)

set_option maxRecDepth 100000 in
set_option maxHeartbeats 2000000 in
theorem xc_op_11 {X : XT} {cA : Nat → ClassId} {b L : Nat} {xs : Nat → Int32} (C : Cx X cL_law RL (some .boolean) cA 2048 84000 4) (E : Sx X b L xs) (hL : L < 2 ^ 31) (qx qm : Nat → Nat) (j : Nat) (hj : 5 * j + 5 ≤ L) (zs zt : Value) (SS TT : va_W) (kk nn : Nat) (hk : kk + 50 ≤ (x_R X).cells ∧ nn + 8000 ≤ (x_R X).slots) (σ σ' : XS) (μ : MS) (hs : HS cA σ zs SS) (ht : HT cA qx σ zt TT) (v : Int32) (hx : sx_least  σ = some (v, σ')) (K : ∀ (zs' zt' : Value) (SS' TT' : va_W) (kk' nn' : Nat), HS cA σ' zs' SS' → HT cA qx σ' zt' TT' → kk' ≤ kk + 50 → nn' ≤ nn + 8000 → Go X 4 kk' nn' 443 (PW cA qx qm zs' zt' σ' μ ++ (SS' ++ TT')) [(0, .ref b), (1, .ref (qx 0)), (2, .ref (qm 0)), (3, .int (nI (5 * j)))] [.int v]) : Go X 4 kk nn 440 (PW cA qx qm zs zt σ μ ++ (SS ++ TT)) [(0, .ref b), (1, .ref (qx 0)), (2, .ref (qm 0)), (3, .int (nI (5 * j)))] [.ref (qx 0)] := by
  unfold sx_least at hx
  obtain ⟨rx, hrx, hx⟩ := cal_some hx
  obtain ⟨e1, e2⟩ := some_pair hx
  subst e1
  subst e2
  rcases hs with ⟨rfl, rfl, hz⟩ | ⟨qs, ad, an, rfl, rfl⟩
  · obtain ⟨z0, z1, z2, z3, z4, z5, z6, z7⟩ := id hz
    have hrz := hrx
    simp only [z0, z1, z2, z3, z4, z5, z6, z7] at hrz
    refine g_callNB C 440 (P := PW cA qx qm .null zt σ μ) (S := [] ++ TT) [0, 15, 16, 5, 6, 1, 3] 0 (rest := []) (kk + 35) (nn + 547) dL_law_440 (c_X8_leastA (x_l X) cA (qx 0) (qx 7) (qx 10) (qx 17) zt (qx 15) (σ.1 6) (σ.1 7) (qx 16) (σ.2.2.1 10) (qx 5) (σ.1 2) (σ.1 3) (qx 6) (σ.2.2.1 3) (qx 1) (qx 2) (qx 4) (σ.1 0) (σ.1 1) (qx 3) (σ.2.2.1 1) rx hrz) kw_673 kw_674 kw_675 kw_6 kw_676 ok_X8_least ⟨by decide, by decide⟩ ⟨by omega, by omega⟩ rfl rfl rfl rfl rfl rfl rfl (Nat.le_of_ble_eq_true rfl) (N0 := 46) rfl [some 0, some 5, none, some 6, none, some 3, some 4, none, none, none, none, none, none, none, none, some 1, some 2, none, none, none, none, none, none, none, none, none, none, none, none, none, none, none, none, none, none, none, none, none, none, none, none, none, none, none, none, none] (by decide) ?_
    intro res wz hB
    obtain ⟨s0, s1, s2, s3, s4, ad, an, rfl, rfl⟩ := hB
    refine ⟨_, _, rfl, rfl, ?_⟩
    refine g_perm perm4 ?_
    exact K (.ref s0) zt _ TT (kk + 35) (nn + 547) (Or.inr ⟨fun i => match i with | 0 => s0 | 1 => s1 | 2 => s2 | 3 => s3 | _ => s4, ad, an, rfl, rfl⟩) ht (by omega) (by omega)
  · have e1 : PW cA qx qm (.ref (qs 0)) zt σ μ ++ ((SW cA qs ad σ ++ VW cA ad an σ) ++ TT) = ((PW cA qx qm (.ref (qs 0)) zt σ μ ++ SW cA qs ad σ) ++ VW cA ad an σ) ++ TT := by simp only [List.append_assoc]
    have e2 : PW cA qx qm (.ref (qs 0)) zt ((upd (upd (upd (upd (upd (upd (upd σ.1 6 rx.2.1) 7 rx.2.2.1) 2 rx.2.2.2.2.1) 3 rx.2.2.2.2.2.1) 17 rx.2.2.2.2.2.2.2.1) 18 rx.2.2.2.2.2.2.2.2.1) 19 rx.2.2.2.2.2.2.2.2.2.1), σ.2.1, (va_up (va_up (va_up (va_up (va_up σ.2.2.1 10 rx.2.2.2.1) 3 rx.2.2.2.2.2.2.1) 28 rx.2.2.2.2.2.2.2.2.2.2.1) 29 rx.2.2.2.2.2.2.2.2.2.2.2.2.1) 30 rx.2.2.2.2.2.2.2.2.2.2.2.2.2.1), (va_up σ.2.2.2.1 0 rx.2.2.2.2.2.2.2.2.2.2.2.1), rx.2.2.2.2.2.2.2.2.2.2.2.2.2.2) μ ++ ((SW cA qs ad ((upd (upd (upd (upd (upd (upd (upd σ.1 6 rx.2.1) 7 rx.2.2.1) 2 rx.2.2.2.2.1) 3 rx.2.2.2.2.2.1) 17 rx.2.2.2.2.2.2.2.1) 18 rx.2.2.2.2.2.2.2.2.1) 19 rx.2.2.2.2.2.2.2.2.2.1), σ.2.1, (va_up (va_up (va_up (va_up (va_up σ.2.2.1 10 rx.2.2.2.1) 3 rx.2.2.2.2.2.2.1) 28 rx.2.2.2.2.2.2.2.2.2.2.1) 29 rx.2.2.2.2.2.2.2.2.2.2.2.2.1) 30 rx.2.2.2.2.2.2.2.2.2.2.2.2.2.1), (va_up σ.2.2.2.1 0 rx.2.2.2.2.2.2.2.2.2.2.2.1), rx.2.2.2.2.2.2.2.2.2.2.2.2.2.2) ++ VW cA ad an ((upd (upd (upd (upd (upd (upd (upd σ.1 6 rx.2.1) 7 rx.2.2.1) 2 rx.2.2.2.2.1) 3 rx.2.2.2.2.2.1) 17 rx.2.2.2.2.2.2.2.1) 18 rx.2.2.2.2.2.2.2.2.1) 19 rx.2.2.2.2.2.2.2.2.2.1), σ.2.1, (va_up (va_up (va_up (va_up (va_up σ.2.2.1 10 rx.2.2.2.1) 3 rx.2.2.2.2.2.2.1) 28 rx.2.2.2.2.2.2.2.2.2.2.1) 29 rx.2.2.2.2.2.2.2.2.2.2.2.2.1) 30 rx.2.2.2.2.2.2.2.2.2.2.2.2.2.1), (va_up σ.2.2.2.1 0 rx.2.2.2.2.2.2.2.2.2.2.2.1), rx.2.2.2.2.2.2.2.2.2.2.2.2.2.2)) ++ TT) = ((PW cA qx qm (.ref (qs 0)) zt ((upd (upd (upd (upd (upd (upd (upd σ.1 6 rx.2.1) 7 rx.2.2.1) 2 rx.2.2.2.2.1) 3 rx.2.2.2.2.2.1) 17 rx.2.2.2.2.2.2.2.1) 18 rx.2.2.2.2.2.2.2.2.1) 19 rx.2.2.2.2.2.2.2.2.2.1), σ.2.1, (va_up (va_up (va_up (va_up (va_up σ.2.2.1 10 rx.2.2.2.1) 3 rx.2.2.2.2.2.2.1) 28 rx.2.2.2.2.2.2.2.2.2.2.1) 29 rx.2.2.2.2.2.2.2.2.2.2.2.2.1) 30 rx.2.2.2.2.2.2.2.2.2.2.2.2.2.1), (va_up σ.2.2.2.1 0 rx.2.2.2.2.2.2.2.2.2.2.2.1), rx.2.2.2.2.2.2.2.2.2.2.2.2.2.2) μ ++ SW cA qs ad ((upd (upd (upd (upd (upd (upd (upd σ.1 6 rx.2.1) 7 rx.2.2.1) 2 rx.2.2.2.2.1) 3 rx.2.2.2.2.2.1) 17 rx.2.2.2.2.2.2.2.1) 18 rx.2.2.2.2.2.2.2.2.1) 19 rx.2.2.2.2.2.2.2.2.2.1), σ.2.1, (va_up (va_up (va_up (va_up (va_up σ.2.2.1 10 rx.2.2.2.1) 3 rx.2.2.2.2.2.2.1) 28 rx.2.2.2.2.2.2.2.2.2.2.1) 29 rx.2.2.2.2.2.2.2.2.2.2.2.2.1) 30 rx.2.2.2.2.2.2.2.2.2.2.2.2.2.1), (va_up σ.2.2.2.1 0 rx.2.2.2.2.2.2.2.2.2.2.2.1), rx.2.2.2.2.2.2.2.2.2.2.2.2.2.2)) ++ VW cA ad an ((upd (upd (upd (upd (upd (upd (upd σ.1 6 rx.2.1) 7 rx.2.2.1) 2 rx.2.2.2.2.1) 3 rx.2.2.2.2.2.1) 17 rx.2.2.2.2.2.2.2.1) 18 rx.2.2.2.2.2.2.2.2.1) 19 rx.2.2.2.2.2.2.2.2.2.1), σ.2.1, (va_up (va_up (va_up (va_up (va_up σ.2.2.1 10 rx.2.2.2.1) 3 rx.2.2.2.2.2.2.1) 28 rx.2.2.2.2.2.2.2.2.2.2.1) 29 rx.2.2.2.2.2.2.2.2.2.2.2.2.1) 30 rx.2.2.2.2.2.2.2.2.2.2.2.2.2.1), (va_up σ.2.2.2.1 0 rx.2.2.2.2.2.2.2.2.2.2.2.1), rx.2.2.2.2.2.2.2.2.2.2.2.2.2.2)) ++ TT := by simp only [List.append_assoc]
    rw [e1]
    have hCP : [0, 15, 16, 5, 6, 1, 3, 46, 47, 48, 49, 50].map (fun i => (PW cA qx qm (.ref (qs 0)) zt σ μ ++ SW cA qs ad σ)[i]?) = ([oB (qx 0) 8 [.ref (qx 1), .ref (qx 5), .ref (qx 7), .ref (qx 10), .ref (qx 15), .ref (qx 17), .ref (qs 0), zt], oB (qx 15) 1 [.ref (qx 16), .int (σ.1 6), .int (σ.1 7)], aI cA (qx 16) 14 (σ.2.2.1 10), oB (qx 5) 2 [.ref (qx 6), .int (σ.1 2), .int (σ.1 3)], aI cA (qx 6) 14 (σ.2.2.1 3), oB (qx 1) 4 [.ref (qx 2), .ref (qx 3), .ref (qx 4), .int (σ.1 0), .int (σ.1 1)], aI cA (qx 3) 14 (σ.2.2.1 1), oB (qs 0) 6 [.ref (qs 1), .ref (qs 3), .ref (qs 4), .int (σ.1 17)], oB (qs 1) 1 [.ref (qs 2), .int (σ.1 18), .int (σ.1 19)], aI cA (qs 2) 14 (σ.2.2.1 28), aG cA (qs 3) 15 (fun i => some (ad i)), aJ cA (qs 4) 256 (σ.2.2.2.1 0)] : va_W).map some := rfl
    refine g_callF C 440 (A := (PW cA qx qm (.ref (qs 0)) zt σ μ ++ SW cA qs ad σ) ++ VW cA ad an σ) (A' := (PW cA qx qm (.ref (qs 0)) zt ((upd (upd (upd (upd (upd (upd (upd σ.1 6 rx.2.1) 7 rx.2.2.1) 2 rx.2.2.2.2.1) 3 rx.2.2.2.2.2.1) 17 rx.2.2.2.2.2.2.2.1) 18 rx.2.2.2.2.2.2.2.2.1) 19 rx.2.2.2.2.2.2.2.2.2.1), σ.2.1, (va_up (va_up (va_up (va_up (va_up σ.2.2.1 10 rx.2.2.2.1) 3 rx.2.2.2.2.2.2.1) 28 rx.2.2.2.2.2.2.2.2.2.2.1) 29 rx.2.2.2.2.2.2.2.2.2.2.2.2.1) 30 rx.2.2.2.2.2.2.2.2.2.2.2.2.2.1), (va_up σ.2.2.2.1 0 rx.2.2.2.2.2.2.2.2.2.2.2.1), rx.2.2.2.2.2.2.2.2.2.2.2.2.2.2) μ ++ SW cA qs ad ((upd (upd (upd (upd (upd (upd (upd σ.1 6 rx.2.1) 7 rx.2.2.1) 2 rx.2.2.2.2.1) 3 rx.2.2.2.2.2.1) 17 rx.2.2.2.2.2.2.2.1) 18 rx.2.2.2.2.2.2.2.2.1) 19 rx.2.2.2.2.2.2.2.2.2.1), σ.2.1, (va_up (va_up (va_up (va_up (va_up σ.2.2.1 10 rx.2.2.2.1) 3 rx.2.2.2.2.2.2.1) 28 rx.2.2.2.2.2.2.2.2.2.2.1) 29 rx.2.2.2.2.2.2.2.2.2.2.2.2.1) 30 rx.2.2.2.2.2.2.2.2.2.2.2.2.2.1), (va_up σ.2.2.2.1 0 rx.2.2.2.2.2.2.2.2.2.2.2.1), rx.2.2.2.2.2.2.2.2.2.2.2.2.2.2)) ++ VW cA ad an ((upd (upd (upd (upd (upd (upd (upd σ.1 6 rx.2.1) 7 rx.2.2.1) 2 rx.2.2.2.2.1) 3 rx.2.2.2.2.2.1) 17 rx.2.2.2.2.2.2.2.1) 18 rx.2.2.2.2.2.2.2.2.1) 19 rx.2.2.2.2.2.2.2.2.2.1), σ.2.1, (va_up (va_up (va_up (va_up (va_up σ.2.2.1 10 rx.2.2.2.1) 3 rx.2.2.2.2.2.2.1) 28 rx.2.2.2.2.2.2.2.2.2.2.1) 29 rx.2.2.2.2.2.2.2.2.2.2.2.2.1) 30 rx.2.2.2.2.2.2.2.2.2.2.2.2.2.1), (va_up σ.2.2.2.1 0 rx.2.2.2.2.2.2.2.2.2.2.2.1), rx.2.2.2.2.2.2.2.2.2.2.2.2.2.2)) (sufI [0, 15, 16, 5, 6, 1, 3, 46, 47, 48, 49, 50] 51 30) 0 (rest := []) dL_law_440 (c_X8_least (x_l X) cA (qx 0) (qx 7) (qx 10) (qx 17) zt (qx 15) (σ.1 6) (σ.1 7) (qx 16) (σ.2.2.1 10) (qx 5) (σ.1 2) (σ.1 3) (qx 6) (σ.2.2.1 3) (qx 1) (qx 2) (qx 4) (σ.1 0) (σ.1 1) (qx 3) (σ.2.2.1 1) (qs 0) (σ.1 17) (qs 1) (σ.1 18) (σ.1 19) (qs 2) (σ.2.2.1 28) (qs 3) (qs 4) (σ.2.2.2.1 0) ad an (σ.2.2.1 29) (σ.2.2.1 30) σ.2.2.2.2  rx hrx) kw_673 kw_674 kw_675 kw_6 kw_676 ok_X8_least ⟨by decide, by decide⟩ ⟨by omega, by omega⟩ ⟨rfl, rfl⟩ rfl rfl (suf_C (P := (PW cA qx qm (.ref (qs 0)) zt σ μ ++ SW cA qs ad σ)) (S := VW cA ad an σ) hCP) (suf_nd (p := 51) (s := 30) rfl (lt_of_C hCP)) rfl (Nat.le_of_ble_eq_true rfl) rfl rfl (suf_sub (P := (PW cA qx qm (.ref (qs 0)) zt σ μ ++ SW cA qs ad σ)) (S := VW cA ad an σ) (w1 := [oB (qx 0) 8 [.ref (qx 1), .ref (qx 5), .ref (qx 7), .ref (qx 10), .ref (qx 15), .ref (qx 17), .ref (qs 0), zt], oB (qx 15) 1 [.ref (qx 16), .int rx.2.1, .int rx.2.2.1], aI cA (qx 16) 14 rx.2.2.2.1, oB (qx 5) 2 [.ref (qx 6), .int rx.2.2.2.2.1, .int rx.2.2.2.2.2.1], aI cA (qx 6) 14 rx.2.2.2.2.2.2.1, oB (qx 1) 4 [.ref (qx 2), .ref (qx 3), .ref (qx 4), .int (σ.1 0), .int (σ.1 1)], aI cA (qx 3) 14 (σ.2.2.1 1), oB (qs 0) 6 [.ref (qs 1), .ref (qs 3), .ref (qs 4), .int rx.2.2.2.2.2.2.2.1], oB (qs 1) 1 [.ref (qs 2), .int rx.2.2.2.2.2.2.2.2.1, .int rx.2.2.2.2.2.2.2.2.2.1], aI cA (qs 2) 14 rx.2.2.2.2.2.2.2.2.2.2.1, aG cA (qs 3) 15 (fun i => some (ad i)), aJ cA (qs 4) 256 rx.2.2.2.2.2.2.2.2.2.2.2.1]) (S1 := VW cA ad an ((upd (upd (upd (upd (upd (upd (upd σ.1 6 rx.2.1) 7 rx.2.2.1) 2 rx.2.2.2.2.1) 3 rx.2.2.2.2.2.1) 17 rx.2.2.2.2.2.2.2.1) 18 rx.2.2.2.2.2.2.2.2.1) 19 rx.2.2.2.2.2.2.2.2.2.1), σ.2.1, (va_up (va_up (va_up (va_up (va_up σ.2.2.1 10 rx.2.2.2.1) 3 rx.2.2.2.2.2.2.1) 28 rx.2.2.2.2.2.2.2.2.2.2.1) 29 rx.2.2.2.2.2.2.2.2.2.2.2.2.1) 30 rx.2.2.2.2.2.2.2.2.2.2.2.2.2.1), (va_up σ.2.2.2.1 0 rx.2.2.2.2.2.2.2.2.2.2.2.1), rx.2.2.2.2.2.2.2.2.2.2.2.2.2.2)) (N0 := 51) rfl (ps := [some 0, some 5, none, some 6, none, some 3, some 4, none, none, none, none, none, none, none, none, some 1, some 2, none, none, none, none, none, none, none, none, none, none, none, none, none, none, none, none, none, none, none, none, none, none, none, none, none, none, none, none, none, some 7, some 8, some 9, some 10, some 11]) (by decide) hCP rfl rfl rfl) rfl ?_
    rw [← e2]
    exact K (.ref (qs 0)) zt _ TT kk nn (Or.inr ⟨qs, ad, an, rfl, rfl⟩) ht (by omega) (by omega)

set_option maxRecDepth 100000 in
set_option maxHeartbeats 2000000 in
theorem op_11 {X : XT} {cA : Nat → ClassId} {b L : Nat} {xs : Nat → Int32} (C : Cx X cL_law RL (some .boolean) cA 2048 84000 4) (E : Sx X b L xs) (hL : L < 2 ^ 31) (qx qm : Nat → Nat) (j : Nat) (hj : 5 * j + 5 ≤ L) (zs zt : Value) (SS TT : va_W) (kk nn : Nat) (hk : kk + 50 ≤ (x_R X).cells ∧ nn + 8000 ≤ (x_R X).slots) (σ σ' : XS) (μ μ' : MS) (hs : HS cA σ zs SS) (ht : HT cA qx σ zt TT) (v w : Int32) (hx : sx_least  σ = some (v, σ')) (hm : sm_least  μ = some (w, μ')) (K : ∀ (zs' zt' : Value) (SS' TT' : va_W) (kk' nn' : Nat), HS cA σ' zs' SS' → HT cA qx σ' zt' TT' → kk' ≤ kk + 50 → nn' ≤ nn + 8000 → Go X 4 kk' nn' 1030 (PW cA qx qm zs' zt' σ' μ' ++ (SS' ++ TT')) [(0, .ref b), (1, .ref (qx 0)), (2, .ref (qm 0)), (3, .int (nI (5 * j)))] []) : Go X 4 kk nn 439 (PW cA qx qm zs zt σ μ ++ (SS ++ TT)) [(0, .ref b), (1, .ref (qx 0)), (2, .ref (qm 0)), (3, .int (nI (5 * j)))] [] := by
  unfold sm_least at hm
  obtain ⟨rm, hrm, hm⟩ := cal_some hm
  obtain ⟨e3, e4⟩ := some_pair hm
  subst e3
  subst e4
  refine g_aload_n C 439 1 dL_law_439 rfl rfl ?_
  refine xc_op_11 C E hL qx qm j hj zs zt SS TT kk nn hk σ σ' μ hs ht v hx ?_
  intro zs' zt' SS' TT' kk' nn' hs2 ht2 hk1 hn1
  have hk2 : kk' ≤ (x_R X).cells ∧ nn' ≤ (x_R X).slots := ⟨by omega, by omega⟩
  refine g_pop C 443 dL_law_443 rfl ?_
  refine g_aload_n C 444 2 dL_law_444 rfl rfl ?_
  refine g_callB C 445 (P := PW cA qx qm zs' zt' σ' μ) [29, 31, 33, 36] 29 (rest := []) (P' := PW cA qx qm zs' zt' σ' ((upd μ.1 1 rm.2.1), μ.2.1, (va_up (va_up μ.2.2.1 3 rm.2.2.1) 6 rm.2.2.2), μ.2.2.2)) dL_law_445 (c_X9_least (x_l X) cA (qm 0) (μ.1 0) (qm 1) (qm 3) (μ.1 1) (μ.1 2) (qm 5) (qm 6) (μ.1 3) (qm 8) (qm 9) (qm 10) (qm 11) (qm 12) (qm 13) (qm 14) (qm 15) (qm 16) (μ.2.1 0) (μ.2.1 1) (μ.2.1 2) (qm 2) (μ.2.2.1 1) (qm 4) (μ.2.2.1 3) (qm 7) (μ.2.2.1 6)  rm hrm) kw_669 kw_670 kw_671 kw_343 kw_672 ok_X9_least ⟨by decide, by decide⟩ hk2 ⟨rfl, rfl⟩ rfl rfl rfl rfl rfl (Nat.le_of_ble_eq_true rfl) rfl (N0 := 46) rfl [none, none, none, none, none, none, none, none, none, none, none, none, none, none, none, none, none, none, none, none, none, none, none, none, none, none, none, none, none, some 0, none, some 1, none, some 2, none, none, some 3, none, none, none, none, none, none, none, none, none] (by decide) rfl (st' := [.int rm.1]) rfl ?_
  refine g_pop C 448 dL_law_448 rfl ?_
  refine g_goto C 449 1030 dL_law_449 (by decide) ?_
  exact K zs' zt' SS' TT' kk' nn' hs2 ht2 hk1 hn1

set_option maxRecDepth 100000 in
set_option maxHeartbeats 2000000 in
theorem op_12 {X : XT} {cA : Nat → ClassId} {b L : Nat} {xs : Nat → Int32} (C : Cx X cL_law RL (some .boolean) cA 2048 84000 4) (E : Sx X b L xs) (hL : L < 2 ^ 31) (qx qm : Nat → Nat) (j : Nat) (hj : 5 * j + 5 ≤ L) (zs zt : Value) (SS TT : va_W) (kk nn : Nat) (hk : kk + 50 ≤ (x_R X).cells ∧ nn + 8000 ≤ (x_R X).slots) (σ σ' : XS) (μ μ' : MS) (hs : HS cA σ zs SS) (ht : HT cA qx σ zt TT) (v w : Int32) (hx : sx_row (xs (5 * j + 1)) σ = some (v, σ')) (hm : sm_row (xs (5 * j + 1)) μ = some (w, μ')) (K : ∀ (zs' zt' : Value) (SS' TT' : va_W) (kk' nn' : Nat), HS cA σ' zs' SS' → HT cA qx σ' zt' TT' → kk' ≤ kk + 50 → nn' ≤ nn + 8000 → Go X 4 kk' nn' 1030 (PW cA qx qm zs' zt' σ' μ' ++ (SS' ++ TT')) [(0, .ref b), (1, .ref (qx 0)), (2, .ref (qm 0)), (3, .int (nI (5 * j)))] []) : Go X 4 kk nn 452 (PW cA qx qm zs zt σ μ ++ (SS ++ TT)) [(0, .ref b), (1, .ref (qx 0)), (2, .ref (qm 0)), (3, .int (nI (5 * j)))] [] := by
  unfold sx_row at hx
  obtain ⟨rx, hrx, hx⟩ := cal_some hx
  obtain ⟨e1, e2⟩ := some_pair hx
  subst e1
  subst e2
  unfold sm_row at hm
  obtain ⟨rm, hrm, hm⟩ := cal_some hm
  obtain ⟨e3, e4⟩ := some_pair hm
  subst e3
  subst e4
  have hk2 : kk ≤ (x_R X).cells ∧ nn ≤ (x_R X).slots := ⟨by omega, by omega⟩
  refine g_aload_n C 452 1 dL_law_452 rfl rfl ?_
  refine g_aload_n C 453 0 dL_law_453 rfl rfl ?_
  refine g_iload_n C 454 3 dL_law_454 rfl rfl ?_
  refine g_iconst C 455 (1 : Int32) dL_law_455 (by decide) ?_
  refine g_iadd C 456 dL_law_456 ?_
  refine g_sld C 457 E (5 * j + 1) dL_law_457 (nI_add (5 * j) 1) (by omega) hL ?_
  refine g_callB C 458 (P := PW cA qx qm zs zt σ μ) [0, 5, 6] 0 (rest := []) (P' := PW cA qx qm zs zt (σ.1, σ.2.1, σ.2.2.1, σ.2.2.2.1, σ.2.2.2.2) μ) dL_law_458 (c_X8_row (x_l X) cA (qx 0) (qx 1) (qx 7) (qx 10) (qx 15) (qx 17) zs zt (qx 5) (σ.1 2) (σ.1 3) (qx 6) (σ.2.2.1 3) (xs (5 * j + 1)) rx hrx) kw_677 kw_678 kw_679 kw_6 kw_680 ok_X8_row ⟨by decide, by decide⟩ hk2 ⟨rfl, rfl⟩ rfl rfl rfl rfl rfl (Nat.le_of_ble_eq_true rfl) rfl (N0 := 46) rfl [some 0, none, none, none, none, some 1, some 2, none, none, none, none, none, none, none, none, none, none, none, none, none, none, none, none, none, none, none, none, none, none, none, none, none, none, none, none, none, none, none, none, none, none, none, none, none, none, none] (by decide) rfl (st' := [.int rx]) rfl ?_
  refine g_pop C 461 dL_law_461 rfl ?_
  refine g_aload_n C 462 2 dL_law_462 rfl rfl ?_
  refine g_aload_n C 463 0 dL_law_463 rfl rfl ?_
  refine g_iload_n C 464 3 dL_law_464 rfl rfl ?_
  refine g_iconst C 465 (1 : Int32) dL_law_465 (by decide) ?_
  refine g_iadd C 466 dL_law_466 ?_
  refine g_sld C 467 E (5 * j + 1) dL_law_467 (nI_add (5 * j) 1) (by omega) hL ?_
  refine g_callB C 468 (P := PW cA qx qm zs zt (σ.1, σ.2.1, σ.2.2.1, σ.2.2.2.1, σ.2.2.2.2) μ) [29, 33] 29 (rest := []) (P' := PW cA qx qm zs zt (σ.1, σ.2.1, σ.2.2.1, σ.2.2.2.1, σ.2.2.2.2) (μ.1, μ.2.1, μ.2.2.1, μ.2.2.2)) dL_law_468 (c_X9_row (x_l X) cA (qm 0) (μ.1 0) (qm 1) (qm 2) (qm 3) (μ.1 1) (μ.1 2) (qm 5) (qm 6) (qm 7) (μ.1 3) (qm 8) (qm 9) (qm 10) (qm 11) (qm 12) (qm 13) (qm 14) (qm 15) (qm 16) (μ.2.1 0) (μ.2.1 1) (μ.2.1 2) (qm 4) (μ.2.2.1 3) (xs (5 * j + 1)) rm hrm) kw_681 kw_682 kw_683 kw_343 kw_684 ok_X9_row ⟨by decide, by decide⟩ hk2 ⟨rfl, rfl⟩ rfl rfl rfl rfl rfl (Nat.le_of_ble_eq_true rfl) rfl (N0 := 46) rfl [none, none, none, none, none, none, none, none, none, none, none, none, none, none, none, none, none, none, none, none, none, none, none, none, none, none, none, none, none, some 0, none, none, none, some 1, none, none, none, none, none, none, none, none, none, none, none, none] (by decide) rfl (st' := [.int rm]) rfl ?_
  refine g_pop C 471 dL_law_471 rfl ?_
  refine g_goto C 472 1030 dL_law_472 (by decide) ?_
  exact K zs zt SS TT kk nn hs ht (by omega) (by omega)

set_option maxRecDepth 100000 in
set_option maxHeartbeats 2000000 in
theorem op_13 {X : XT} {cA : Nat → ClassId} {b L : Nat} {xs : Nat → Int32} (C : Cx X cL_law RL (some .boolean) cA 2048 84000 4) (E : Sx X b L xs) (hL : L < 2 ^ 31) (qx qm : Nat → Nat) (j : Nat) (hj : 5 * j + 5 ≤ L) (zs zt : Value) (SS TT : va_W) (kk nn : Nat) (hk : kk + 50 ≤ (x_R X).cells ∧ nn + 8000 ≤ (x_R X).slots) (σ σ' : XS) (μ μ' : MS) (hs : HS cA σ zs SS) (ht : HT cA qx σ zt TT) (v w : Int32) (hx : sx_below  σ = some (v, σ')) (hm : sm_below  μ = some (w, μ')) (K : ∀ (zs' zt' : Value) (SS' TT' : va_W) (kk' nn' : Nat), HS cA σ' zs' SS' → HT cA qx σ' zt' TT' → kk' ≤ kk + 50 → nn' ≤ nn + 8000 → Go X 4 kk' nn' 1030 (PW cA qx qm zs' zt' σ' μ' ++ (SS' ++ TT')) [(0, .ref b), (1, .ref (qx 0)), (2, .ref (qm 0)), (3, .int (nI (5 * j)))] []) : Go X 4 kk nn 475 (PW cA qx qm zs zt σ μ ++ (SS ++ TT)) [(0, .ref b), (1, .ref (qx 0)), (2, .ref (qm 0)), (3, .int (nI (5 * j)))] [] := by
  unfold sx_below at hx
  obtain ⟨rx, hrx, hx⟩ := cal_some hx
  obtain ⟨e1, e2⟩ := some_pair hx
  subst e1
  subst e2
  unfold sm_below at hm
  obtain ⟨rm, hrm, hm⟩ := cal_some hm
  obtain ⟨e3, e4⟩ := some_pair hm
  subst e3
  subst e4
  have hk2 : kk ≤ (x_R X).cells ∧ nn ≤ (x_R X).slots := ⟨by omega, by omega⟩
  refine g_aload_n C 475 1 dL_law_475 rfl rfl ?_
  refine g_callB C 476 (P := PW cA qx qm zs zt σ μ) [0, 1, 3, 15, 16] 0 (rest := []) (P' := PW cA qx qm zs zt ((upd (upd σ.1 6 rx.2.1) 7 rx.2.2.1), σ.2.1, (va_up σ.2.2.1 10 rx.2.2.2), σ.2.2.2.1, σ.2.2.2.2) μ) dL_law_476 (c_X8_below (x_l X) cA (qx 0) (qx 5) (qx 7) (qx 10) (qx 17) zs zt (qx 1) (qx 2) (qx 4) (σ.1 0) (σ.1 1) (qx 3) (σ.2.2.1 1) (qx 15) (σ.1 6) (σ.1 7) (qx 16) (σ.2.2.1 10)  rx hrx) kw_685 kw_686 kw_687 kw_6 kw_688 ok_X8_below ⟨by decide, by decide⟩ hk2 ⟨rfl, rfl⟩ rfl rfl rfl rfl rfl (Nat.le_of_ble_eq_true rfl) rfl (N0 := 46) rfl [some 0, some 1, none, some 2, none, none, none, none, none, none, none, none, none, none, none, some 3, some 4, none, none, none, none, none, none, none, none, none, none, none, none, none, none, none, none, none, none, none, none, none, none, none, none, none, none, none, none, none] (by decide) rfl (st' := [.int rx.1]) rfl ?_
  refine g_pop C 479 dL_law_479 rfl ?_
  refine g_aload_n C 480 2 dL_law_480 rfl rfl ?_
  refine g_callB C 481 (P := PW cA qx qm zs zt ((upd (upd σ.1 6 rx.2.1) 7 rx.2.2.1), σ.2.1, (va_up σ.2.2.1 10 rx.2.2.2), σ.2.2.2.1, σ.2.2.2.2) μ) [29, 31] 29 (rest := []) (P' := PW cA qx qm zs zt ((upd (upd σ.1 6 rx.2.1) 7 rx.2.2.1), σ.2.1, (va_up σ.2.2.1 10 rx.2.2.2), σ.2.2.2.1, σ.2.2.2.2) (μ.1, μ.2.1, μ.2.2.1, μ.2.2.2)) dL_law_481 (c_X9_below (x_l X) cA (qm 0) (μ.1 0) (qm 1) (qm 3) (μ.1 1) (qm 4) (μ.1 2) (qm 5) (qm 6) (qm 7) (μ.1 3) (qm 8) (qm 9) (qm 10) (qm 11) (qm 12) (qm 13) (qm 14) (qm 15) (qm 16) (μ.2.1 0) (μ.2.1 1) (μ.2.1 2) (qm 2) (μ.2.2.1 1)  rm hrm) kw_689 kw_690 kw_691 kw_343 kw_692 ok_X9_below ⟨by decide, by decide⟩ hk2 ⟨rfl, rfl⟩ rfl rfl rfl rfl rfl (Nat.le_of_ble_eq_true rfl) rfl (N0 := 46) rfl [none, none, none, none, none, none, none, none, none, none, none, none, none, none, none, none, none, none, none, none, none, none, none, none, none, none, none, none, none, some 0, none, some 1, none, none, none, none, none, none, none, none, none, none, none, none, none, none] (by decide) rfl (st' := [.int rm]) rfl ?_
  refine g_pop C 484 dL_law_484 rfl ?_
  refine g_goto C 485 1030 dL_law_485 (by decide) ?_
  exact K zs zt SS TT kk nn hs ht (by omega) (by omega)

set_option maxRecDepth 100000 in
set_option maxHeartbeats 2000000 in
theorem op_14 {X : XT} {cA : Nat → ClassId} {b L : Nat} {xs : Nat → Int32} (C : Cx X cL_law RL (some .boolean) cA 2048 84000 4) (E : Sx X b L xs) (hL : L < 2 ^ 31) (qx qm : Nat → Nat) (j : Nat) (hj : 5 * j + 5 ≤ L) (zs zt : Value) (SS TT : va_W) (kk nn : Nat) (hk : kk + 50 ≤ (x_R X).cells ∧ nn + 8000 ≤ (x_R X).slots) (σ σ' : XS) (μ μ' : MS) (hs : HS cA σ zs SS) (ht : HT cA qx σ zt TT) (v w : Int32) (hx : sx_clear  σ = some (v, σ')) (hm : sm_clear  μ = some (w, μ')) (K : ∀ (zs' zt' : Value) (SS' TT' : va_W) (kk' nn' : Nat), HS cA σ' zs' SS' → HT cA qx σ' zt' TT' → kk' ≤ kk + 50 → nn' ≤ nn + 8000 → Go X 4 kk' nn' 1030 (PW cA qx qm zs' zt' σ' μ' ++ (SS' ++ TT')) [(0, .ref b), (1, .ref (qx 0)), (2, .ref (qm 0)), (3, .int (nI (5 * j)))] []) : Go X 4 kk nn 488 (PW cA qx qm zs zt σ μ ++ (SS ++ TT)) [(0, .ref b), (1, .ref (qx 0)), (2, .ref (qm 0)), (3, .int (nI (5 * j)))] [] := by
  unfold sx_clear at hx
  obtain ⟨rx, hrx, hx⟩ := cal_some hx
  obtain ⟨e1, e2⟩ := some_pair hx
  subst e1
  subst e2
  unfold sm_clear at hm
  obtain ⟨rm, hrm, hm⟩ := cal_some hm
  obtain ⟨e3, e4⟩ := some_pair hm
  subst e3
  subst e4
  have hk2 : kk ≤ (x_R X).cells ∧ nn ≤ (x_R X).slots := ⟨by omega, by omega⟩
  refine g_aload_n C 488 1 dL_law_488 rfl rfl ?_
  refine g_callB C 489 (P := PW cA qx qm zs zt σ μ) [0, 7] 0 (rest := []) (P' := PW cA qx qm zs zt ((upd σ.1 4 rx.2), σ.2.1, σ.2.2.1, σ.2.2.2.1, σ.2.2.2.2) μ) dL_law_489 (c_X8_clear (x_l X) cA (qx 0) (qx 1) (qx 5) (qx 10) (qx 15) (qx 17) zs zt (qx 7) (qx 8) (qx 9) (σ.1 4)  rx hrx) kw_693 kw_694 kw_695 kw_6 kw_696 ok_X8_clear ⟨by decide, by decide⟩ hk2 ⟨rfl, rfl⟩ rfl rfl rfl rfl rfl (Nat.le_of_ble_eq_true rfl) rfl (N0 := 46) rfl [some 0, none, none, none, none, none, none, some 1, none, none, none, none, none, none, none, none, none, none, none, none, none, none, none, none, none, none, none, none, none, none, none, none, none, none, none, none, none, none, none, none, none, none, none, none, none, none] (by decide) rfl (st' := [.int rx.1]) rfl ?_
  refine g_pop C 492 dL_law_492 rfl ?_
  refine g_aload_n C 493 2 dL_law_493 rfl rfl ?_
  refine g_callB C 494 (P := PW cA qx qm zs zt ((upd σ.1 4 rx.2), σ.2.1, σ.2.2.1, σ.2.2.2.1, σ.2.2.2.2) μ) [29] 29 (rest := []) (P' := PW cA qx qm zs zt ((upd σ.1 4 rx.2), σ.2.1, σ.2.2.1, σ.2.2.2.1, σ.2.2.2.2) ((upd μ.1 2 rm.2), μ.2.1, μ.2.2.1, μ.2.2.2)) dL_law_494 (c_X9_clear (x_l X) cA (qm 0) (μ.1 0) (qm 1) (qm 2) (qm 3) (μ.1 1) (qm 4) (μ.1 2) (qm 5) (qm 6) (qm 7) (μ.1 3) (qm 8) (qm 9) (qm 10) (qm 11) (qm 12) (qm 13) (qm 14) (qm 15) (qm 16) (μ.2.1 0) (μ.2.1 1) (μ.2.1 2)  rm hrm) kw_697 kw_698 kw_699 kw_343 kw_700 ok_X9_clear ⟨by decide, by decide⟩ hk2 ⟨rfl, rfl⟩ rfl rfl rfl rfl rfl (Nat.le_of_ble_eq_true rfl) rfl (N0 := 46) rfl [none, none, none, none, none, none, none, none, none, none, none, none, none, none, none, none, none, none, none, none, none, none, none, none, none, none, none, none, none, some 0, none, none, none, none, none, none, none, none, none, none, none, none, none, none, none, none] (by decide) rfl (st' := [.int rm.1]) rfl ?_
  refine g_pop C 497 dL_law_497 rfl ?_
  refine g_goto C 498 1030 dL_law_498 (by decide) ?_
  exact K zs zt SS TT kk nn hs ht (by omega) (by omega)

set_option maxRecDepth 100000 in
set_option maxHeartbeats 2000000 in
theorem op_15 {X : XT} {cA : Nat → ClassId} {b L : Nat} {xs : Nat → Int32} (C : Cx X cL_law RL (some .boolean) cA 2048 84000 4) (E : Sx X b L xs) (hL : L < 2 ^ 31) (qx qm : Nat → Nat) (j : Nat) (hj : 5 * j + 5 ≤ L) (zs zt : Value) (SS TT : va_W) (kk nn : Nat) (hk : kk + 50 ≤ (x_R X).cells ∧ nn + 8000 ≤ (x_R X).slots) (σ σ' : XS) (μ μ' : MS) (hs : HS cA σ zs SS) (ht : HT cA qx σ zt TT) (v w : Int32) (hx : sx_bag (xs (5 * j + 1)) σ = some (v, σ')) (hm : sm_bag (xs (5 * j + 1)) μ = some (w, μ')) (K : ∀ (zs' zt' : Value) (SS' TT' : va_W) (kk' nn' : Nat), HS cA σ' zs' SS' → HT cA qx σ' zt' TT' → kk' ≤ kk + 50 → nn' ≤ nn + 8000 → Go X 4 kk' nn' 1030 (PW cA qx qm zs' zt' σ' μ' ++ (SS' ++ TT')) [(0, .ref b), (1, .ref (qx 0)), (2, .ref (qm 0)), (3, .int (nI (5 * j)))] []) : Go X 4 kk nn 501 (PW cA qx qm zs zt σ μ ++ (SS ++ TT)) [(0, .ref b), (1, .ref (qx 0)), (2, .ref (qm 0)), (3, .int (nI (5 * j)))] [] := by
  unfold sx_bag at hx
  obtain ⟨rx, hrx, hx⟩ := cal_some hx
  obtain ⟨e1, e2⟩ := some_pair hx
  subst e1
  subst e2
  unfold sm_bag at hm
  obtain ⟨rm, hrm, hm⟩ := cal_some hm
  obtain ⟨e3, e4⟩ := some_pair hm
  subst e3
  subst e4
  have hk2 : kk ≤ (x_R X).cells ∧ nn ≤ (x_R X).slots := ⟨by omega, by omega⟩
  refine g_aload_n C 501 1 dL_law_501 rfl rfl ?_
  refine g_aload_n C 502 0 dL_law_502 rfl rfl ?_
  refine g_iload_n C 503 3 dL_law_503 rfl rfl ?_
  refine g_iconst C 504 (1 : Int32) dL_law_504 (by decide) ?_
  refine g_iadd C 505 dL_law_505 ?_
  refine g_sld C 506 E (5 * j + 1) dL_law_506 (nI_add (5 * j) 1) (by omega) hL ?_
  refine g_callB C 507 (P := PW cA qx qm zs zt σ μ) [0, 1, 7, 8, 9] 0 (rest := []) (P' := PW cA qx qm zs zt ((upd σ.1 4 rx.2.1), σ.2.1, (va_up (va_up σ.2.2.1 4 rx.2.2.1) 5 rx.2.2.2), σ.2.2.2.1, σ.2.2.2.2) μ) dL_law_507 (c_X8_bag (x_l X) cA (qx 0) (qx 5) (qx 10) (qx 15) (qx 17) zs zt (qx 1) (qx 2) (qx 3) (qx 4) (σ.1 0) (σ.1 1) (qx 7) (σ.1 4) (qx 8) (σ.2.2.1 4) (qx 9) (σ.2.2.1 5) (xs (5 * j + 1)) rx hrx) kw_701 kw_702 kw_703 kw_6 kw_704 ok_X8_bag ⟨by decide, by decide⟩ hk2 ⟨rfl, rfl⟩ rfl rfl rfl rfl rfl (Nat.le_of_ble_eq_true rfl) rfl (N0 := 46) rfl [some 0, some 1, none, none, none, none, none, some 2, some 3, some 4, none, none, none, none, none, none, none, none, none, none, none, none, none, none, none, none, none, none, none, none, none, none, none, none, none, none, none, none, none, none, none, none, none, none, none, none] (by decide) rfl (st' := [.int rx.1]) rfl ?_
  refine g_pop C 510 dL_law_510 rfl ?_
  refine g_aload_n C 511 2 dL_law_511 rfl rfl ?_
  refine g_aload_n C 512 0 dL_law_512 rfl rfl ?_
  refine g_iload_n C 513 3 dL_law_513 rfl rfl ?_
  refine g_iconst C 514 (1 : Int32) dL_law_514 (by decide) ?_
  refine g_iadd C 515 dL_law_515 ?_
  refine g_sld C 516 E (5 * j + 1) dL_law_516 (nI_add (5 * j) 1) (by omega) hL ?_
  refine g_callB C 517 (P := PW cA qx qm zs zt ((upd σ.1 4 rx.2.1), σ.2.1, (va_up (va_up σ.2.2.1 4 rx.2.2.1) 5 rx.2.2.2), σ.2.2.2.1, σ.2.2.2.2) μ) [29, 34, 35] 29 (rest := []) (P' := PW cA qx qm zs zt ((upd σ.1 4 rx.2.1), σ.2.1, (va_up (va_up σ.2.2.1 4 rx.2.2.1) 5 rx.2.2.2), σ.2.2.2.1, σ.2.2.2.2) ((upd μ.1 2 rm.2.1), μ.2.1, (va_up (va_up μ.2.2.1 4 rm.2.2.1) 5 rm.2.2.2), μ.2.2.2)) dL_law_517 (c_X9_bag (x_l X) cA (qm 0) (μ.1 0) (qm 1) (qm 2) (qm 3) (μ.1 1) (qm 4) (μ.1 2) (qm 7) (μ.1 3) (qm 8) (qm 9) (qm 10) (qm 11) (qm 12) (qm 13) (qm 14) (qm 15) (qm 16) (μ.2.1 0) (μ.2.1 1) (μ.2.1 2) (qm 5) (μ.2.2.1 4) (qm 6) (μ.2.2.1 5) (xs (5 * j + 1)) rm hrm) kw_705 kw_706 kw_707 kw_343 kw_708 ok_X9_bag ⟨by decide, by decide⟩ hk2 ⟨rfl, rfl⟩ rfl rfl rfl rfl rfl (Nat.le_of_ble_eq_true rfl) rfl (N0 := 46) rfl [none, none, none, none, none, none, none, none, none, none, none, none, none, none, none, none, none, none, none, none, none, none, none, none, none, none, none, none, none, some 0, none, none, none, none, some 1, some 2, none, none, none, none, none, none, none, none, none, none] (by decide) rfl (st' := [.int rm.1]) rfl ?_
  refine g_pop C 520 dL_law_520 rfl ?_
  refine g_goto C 521 1030 dL_law_521 (by decide) ?_
  exact K zs zt SS TT kk nn hs ht (by omega) (by omega)

set_option maxRecDepth 100000 in
set_option maxHeartbeats 2000000 in
theorem op_16 {X : XT} {cA : Nat → ClassId} {b L : Nat} {xs : Nat → Int32} (C : Cx X cL_law RL (some .boolean) cA 2048 84000 4) (E : Sx X b L xs) (hL : L < 2 ^ 31) (qx qm : Nat → Nat) (j : Nat) (hj : 5 * j + 5 ≤ L) (zs zt : Value) (SS TT : va_W) (kk nn : Nat) (hk : kk + 50 ≤ (x_R X).cells ∧ nn + 8000 ≤ (x_R X).slots) (σ σ' : XS) (μ μ' : MS) (hs : HS cA σ zs SS) (ht : HT cA qx σ zt TT) (v w : Int32) (hx : sx_hang (xs (5 * j + 1)) (xs (5 * j + 2)) σ = some (v, σ')) (hm : sm_hang (xs (5 * j + 1)) (xs (5 * j + 2)) μ = some (w, μ')) (K : ∀ (zs' zt' : Value) (SS' TT' : va_W) (kk' nn' : Nat), HS cA σ' zs' SS' → HT cA qx σ' zt' TT' → kk' ≤ kk + 50 → nn' ≤ nn + 8000 → Go X 4 kk' nn' 1030 (PW cA qx qm zs' zt' σ' μ' ++ (SS' ++ TT')) [(0, .ref b), (1, .ref (qx 0)), (2, .ref (qm 0)), (3, .int (nI (5 * j)))] []) : Go X 4 kk nn 524 (PW cA qx qm zs zt σ μ ++ (SS ++ TT)) [(0, .ref b), (1, .ref (qx 0)), (2, .ref (qm 0)), (3, .int (nI (5 * j)))] [] := by
  unfold sx_hang at hx
  obtain ⟨rx, hrx, hx⟩ := cal_some hx
  obtain ⟨e1, e2⟩ := some_pair hx
  subst e1
  subst e2
  unfold sm_hang at hm
  obtain ⟨rm, hrm, hm⟩ := cal_some hm
  obtain ⟨e3, e4⟩ := some_pair hm
  subst e3
  subst e4
  have hk2 : kk ≤ (x_R X).cells ∧ nn ≤ (x_R X).slots := ⟨by omega, by omega⟩
  refine g_aload_n C 524 1 dL_law_524 rfl rfl ?_
  refine g_aload_n C 525 0 dL_law_525 rfl rfl ?_
  refine g_iload_n C 526 3 dL_law_526 rfl rfl ?_
  refine g_iconst C 527 (1 : Int32) dL_law_527 (by decide) ?_
  refine g_iadd C 528 dL_law_528 ?_
  refine g_sld C 529 E (5 * j + 1) dL_law_529 (nI_add (5 * j) 1) (by omega) hL ?_
  refine g_aload_n C 530 0 dL_law_530 rfl rfl ?_
  refine g_iload_n C 531 3 dL_law_531 rfl rfl ?_
  refine g_iconst C 532 (2 : Int32) dL_law_532 (by decide) ?_
  refine g_iadd C 533 dL_law_533 ?_
  refine g_sld C 534 E (5 * j + 2) dL_law_534 (nI_add (5 * j) 2) (by omega) hL ?_
  refine g_callB C 535 (P := PW cA qx qm zs zt σ μ) [0, 7, 9] 0 (rest := []) (P' := PW cA qx qm zs zt (σ.1, σ.2.1, (va_up σ.2.2.1 5 rx.2), σ.2.2.2.1, σ.2.2.2.2) μ) dL_law_535 (c_X8_hang (x_l X) cA (qx 0) (qx 1) (qx 5) (qx 10) (qx 15) (qx 17) zs zt (qx 7) (qx 8) (σ.1 4) (qx 9) (σ.2.2.1 5) (xs (5 * j + 1)) (xs (5 * j + 2)) rx hrx) kw_709 kw_710 kw_711 kw_6 kw_712 ok_X8_hang ⟨by decide, by decide⟩ hk2 ⟨rfl, rfl⟩ rfl rfl rfl rfl rfl (Nat.le_of_ble_eq_true rfl) rfl (N0 := 46) rfl [some 0, none, none, none, none, none, none, some 1, none, some 2, none, none, none, none, none, none, none, none, none, none, none, none, none, none, none, none, none, none, none, none, none, none, none, none, none, none, none, none, none, none, none, none, none, none, none, none] (by decide) rfl (st' := [.int rx.1]) rfl ?_
  refine g_pop C 538 dL_law_538 rfl ?_
  refine g_aload_n C 539 2 dL_law_539 rfl rfl ?_
  refine g_aload_n C 540 0 dL_law_540 rfl rfl ?_
  refine g_iload_n C 541 3 dL_law_541 rfl rfl ?_
  refine g_iconst C 542 (1 : Int32) dL_law_542 (by decide) ?_
  refine g_iadd C 543 dL_law_543 ?_
  refine g_sld C 544 E (5 * j + 1) dL_law_544 (nI_add (5 * j) 1) (by omega) hL ?_
  refine g_aload_n C 545 0 dL_law_545 rfl rfl ?_
  refine g_iload_n C 546 3 dL_law_546 rfl rfl ?_
  refine g_iconst C 547 (2 : Int32) dL_law_547 (by decide) ?_
  refine g_iadd C 548 dL_law_548 ?_
  refine g_sld C 549 E (5 * j + 2) dL_law_549 (nI_add (5 * j) 2) (by omega) hL ?_
  refine g_callB C 550 (P := PW cA qx qm zs zt (σ.1, σ.2.1, (va_up σ.2.2.1 5 rx.2), σ.2.2.2.1, σ.2.2.2.2) μ) [29, 35] 29 (rest := []) (P' := PW cA qx qm zs zt (σ.1, σ.2.1, (va_up σ.2.2.1 5 rx.2), σ.2.2.2.1, σ.2.2.2.2) (μ.1, μ.2.1, (va_up μ.2.2.1 5 rm.2), μ.2.2.2)) dL_law_550 (c_X9_hang (x_l X) cA (qm 0) (μ.1 0) (qm 1) (qm 2) (qm 3) (μ.1 1) (qm 4) (μ.1 2) (qm 5) (qm 7) (μ.1 3) (qm 8) (qm 9) (qm 10) (qm 11) (qm 12) (qm 13) (qm 14) (qm 15) (qm 16) (μ.2.1 0) (μ.2.1 1) (μ.2.1 2) (qm 6) (μ.2.2.1 5) (xs (5 * j + 1)) (xs (5 * j + 2)) rm hrm) kw_713 kw_714 kw_715 kw_343 kw_716 ok_X9_hang ⟨by decide, by decide⟩ hk2 ⟨rfl, rfl⟩ rfl rfl rfl rfl rfl (Nat.le_of_ble_eq_true rfl) rfl (N0 := 46) rfl [none, none, none, none, none, none, none, none, none, none, none, none, none, none, none, none, none, none, none, none, none, none, none, none, none, none, none, none, none, some 0, none, none, none, none, none, some 1, none, none, none, none, none, none, none, none, none, none] (by decide) rfl (st' := [.int rm.1]) rfl ?_
  refine g_pop C 553 dL_law_553 rfl ?_
  refine g_goto C 554 1030 dL_law_554 (by decide) ?_
  exact K zs zt SS TT kk nn hs ht (by omega) (by omega)

set_option maxRecDepth 100000 in
set_option maxHeartbeats 2000000 in
theorem op_17 {X : XT} {cA : Nat → ClassId} {b L : Nat} {xs : Nat → Int32} (C : Cx X cL_law RL (some .boolean) cA 2048 84000 4) (E : Sx X b L xs) (hL : L < 2 ^ 31) (qx qm : Nat → Nat) (j : Nat) (hj : 5 * j + 5 ≤ L) (zs zt : Value) (SS TT : va_W) (kk nn : Nat) (hk : kk + 50 ≤ (x_R X).cells ∧ nn + 8000 ≤ (x_R X).slots) (σ σ' : XS) (μ μ' : MS) (hs : HS cA σ zs SS) (ht : HT cA qx σ zt TT) (v w : Int32) (hx : sx_bagged (xs (5 * j + 1)) (xs (5 * j + 2)) σ = some (v, σ')) (hm : sm_bagged (xs (5 * j + 1)) (xs (5 * j + 2)) μ = some (w, μ')) (K : ∀ (zs' zt' : Value) (SS' TT' : va_W) (kk' nn' : Nat), HS cA σ' zs' SS' → HT cA qx σ' zt' TT' → kk' ≤ kk + 50 → nn' ≤ nn + 8000 → Go X 4 kk' nn' 1030 (PW cA qx qm zs' zt' σ' μ' ++ (SS' ++ TT')) [(0, .ref b), (1, .ref (qx 0)), (2, .ref (qm 0)), (3, .int (nI (5 * j)))] []) : Go X 4 kk nn 557 (PW cA qx qm zs zt σ μ ++ (SS ++ TT)) [(0, .ref b), (1, .ref (qx 0)), (2, .ref (qm 0)), (3, .int (nI (5 * j)))] [] := by
  unfold sx_bagged at hx
  obtain ⟨rx, hrx, hx⟩ := cal_some hx
  obtain ⟨e1, e2⟩ := some_pair hx
  subst e1
  subst e2
  unfold sm_bagged at hm
  obtain ⟨rm, hrm, hm⟩ := cal_some hm
  obtain ⟨e3, e4⟩ := some_pair hm
  subst e3
  subst e4
  have hk2 : kk ≤ (x_R X).cells ∧ nn ≤ (x_R X).slots := ⟨by omega, by omega⟩
  refine g_aload_n C 557 1 dL_law_557 rfl rfl ?_
  refine g_aload_n C 558 0 dL_law_558 rfl rfl ?_
  refine g_iload_n C 559 3 dL_law_559 rfl rfl ?_
  refine g_iconst C 560 (1 : Int32) dL_law_560 (by decide) ?_
  refine g_iadd C 561 dL_law_561 ?_
  refine g_sld C 562 E (5 * j + 1) dL_law_562 (nI_add (5 * j) 1) (by omega) hL ?_
  refine g_aload_n C 563 0 dL_law_563 rfl rfl ?_
  refine g_iload_n C 564 3 dL_law_564 rfl rfl ?_
  refine g_iconst C 565 (2 : Int32) dL_law_565 (by decide) ?_
  refine g_iadd C 566 dL_law_566 ?_
  refine g_sld C 567 E (5 * j + 2) dL_law_567 (nI_add (5 * j) 2) (by omega) hL ?_
  refine g_callB C 568 (P := PW cA qx qm zs zt σ μ) [0, 7, 8, 9] 0 (rest := []) (P' := PW cA qx qm zs zt (σ.1, σ.2.1, σ.2.2.1, σ.2.2.2.1, σ.2.2.2.2) μ) dL_law_568 (c_X8_bagged (x_l X) cA (qx 0) (qx 1) (qx 5) (qx 10) (qx 15) (qx 17) zs zt (qx 7) (σ.1 4) (qx 8) (σ.2.2.1 4) (qx 9) (σ.2.2.1 5) (xs (5 * j + 1)) (xs (5 * j + 2)) rx hrx) kw_717 kw_718 kw_719 kw_6 kw_720 ok_X8_bagged ⟨by decide, by decide⟩ hk2 ⟨rfl, rfl⟩ rfl rfl rfl rfl rfl (Nat.le_of_ble_eq_true rfl) rfl (N0 := 46) rfl [some 0, none, none, none, none, none, none, some 1, some 2, some 3, none, none, none, none, none, none, none, none, none, none, none, none, none, none, none, none, none, none, none, none, none, none, none, none, none, none, none, none, none, none, none, none, none, none, none, none] (by decide) rfl (st' := [.int rx]) rfl ?_
  refine g_pop C 571 dL_law_571 rfl ?_
  refine g_aload_n C 572 2 dL_law_572 rfl rfl ?_
  refine g_aload_n C 573 0 dL_law_573 rfl rfl ?_
  refine g_iload_n C 574 3 dL_law_574 rfl rfl ?_
  refine g_iconst C 575 (1 : Int32) dL_law_575 (by decide) ?_
  refine g_iadd C 576 dL_law_576 ?_
  refine g_sld C 577 E (5 * j + 1) dL_law_577 (nI_add (5 * j) 1) (by omega) hL ?_
  refine g_aload_n C 578 0 dL_law_578 rfl rfl ?_
  refine g_iload_n C 579 3 dL_law_579 rfl rfl ?_
  refine g_iconst C 580 (2 : Int32) dL_law_580 (by decide) ?_
  refine g_iadd C 581 dL_law_581 ?_
  refine g_sld C 582 E (5 * j + 2) dL_law_582 (nI_add (5 * j) 2) (by omega) hL ?_
  refine g_callB C 583 (P := PW cA qx qm zs zt (σ.1, σ.2.1, σ.2.2.1, σ.2.2.2.1, σ.2.2.2.2) μ) [29, 34, 35] 29 (rest := []) (P' := PW cA qx qm zs zt (σ.1, σ.2.1, σ.2.2.1, σ.2.2.2.1, σ.2.2.2.2) (μ.1, μ.2.1, μ.2.2.1, μ.2.2.2)) dL_law_583 (c_X9_bagged (x_l X) cA (qm 0) (μ.1 0) (qm 1) (qm 2) (qm 3) (μ.1 1) (qm 4) (μ.1 2) (qm 7) (μ.1 3) (qm 8) (qm 9) (qm 10) (qm 11) (qm 12) (qm 13) (qm 14) (qm 15) (qm 16) (μ.2.1 0) (μ.2.1 1) (μ.2.1 2) (qm 5) (μ.2.2.1 4) (qm 6) (μ.2.2.1 5) (xs (5 * j + 1)) (xs (5 * j + 2)) rm hrm) kw_721 kw_722 kw_723 kw_343 kw_724 ok_X9_bagged ⟨by decide, by decide⟩ hk2 ⟨rfl, rfl⟩ rfl rfl rfl rfl rfl (Nat.le_of_ble_eq_true rfl) rfl (N0 := 46) rfl [none, none, none, none, none, none, none, none, none, none, none, none, none, none, none, none, none, none, none, none, none, none, none, none, none, none, none, none, none, some 0, none, none, none, none, some 1, some 2, none, none, none, none, none, none, none, none, none, none] (by decide) rfl (st' := [.int rm]) rfl ?_
  refine g_pop C 586 dL_law_586 rfl ?_
  refine g_goto C 587 1030 dL_law_587 (by decide) ?_
  exact K zs zt SS TT kk nn hs ht (by omega) (by omega)

set_option maxRecDepth 100000 in
set_option maxHeartbeats 2000000 in
theorem op_18 {X : XT} {cA : Nat → ClassId} {b L : Nat} {xs : Nat → Int32} (C : Cx X cL_law RL (some .boolean) cA 2048 84000 4) (E : Sx X b L xs) (hL : L < 2 ^ 31) (qx qm : Nat → Nat) (j : Nat) (hj : 5 * j + 5 ≤ L) (zs zt : Value) (SS TT : va_W) (kk nn : Nat) (hk : kk + 50 ≤ (x_R X).cells ∧ nn + 8000 ≤ (x_R X).slots) (σ σ' : XS) (μ μ' : MS) (hs : HS cA σ zs SS) (ht : HT cA qx σ zt TT) (v w : Int32) (hx : sx_sound  σ = some (v, σ')) (hm : sm_sound  μ = some (w, μ')) (K : ∀ (zs' zt' : Value) (SS' TT' : va_W) (kk' nn' : Nat), HS cA σ' zs' SS' → HT cA qx σ' zt' TT' → kk' ≤ kk + 50 → nn' ≤ nn + 8000 → Go X 4 kk' nn' 1030 (PW cA qx qm zs' zt' σ' μ' ++ (SS' ++ TT')) [(0, .ref b), (1, .ref (qx 0)), (2, .ref (qm 0)), (3, .int (nI (5 * j)))] []) : Go X 4 kk nn 590 (PW cA qx qm zs zt σ μ ++ (SS ++ TT)) [(0, .ref b), (1, .ref (qx 0)), (2, .ref (qm 0)), (3, .int (nI (5 * j)))] [] := by
  unfold sx_sound at hx
  obtain ⟨rx, hrx, hx⟩ := cal_some hx
  obtain ⟨e1, e2⟩ := some_pair hx
  subst e1
  subst e2
  unfold sm_sound at hm
  obtain ⟨rm, hrm, hm⟩ := cal_some hm
  obtain ⟨e3, e4⟩ := some_pair hm
  subst e3
  subst e4
  have hk2 : kk ≤ (x_R X).cells ∧ nn ≤ (x_R X).slots := ⟨by omega, by omega⟩
  refine g_aload_n C 590 1 dL_law_590 rfl rfl ?_
  refine g_callB C 591 (P := PW cA qx qm zs zt σ μ) [0, 1, 3, 7, 8, 9] 0 (rest := []) (P' := PW cA qx qm zs zt (σ.1, σ.2.1, σ.2.2.1, σ.2.2.2.1, σ.2.2.2.2) μ) dL_law_591 (c_X8_sound (x_l X) cA (qx 0) (qx 5) (qx 10) (qx 15) (qx 17) zs zt (qx 1) (qx 2) (qx 4) (σ.1 0) (σ.1 1) (qx 3) (σ.2.2.1 1) (qx 7) (σ.1 4) (qx 8) (σ.2.2.1 4) (qx 9) (σ.2.2.1 5)  rx hrx) kw_725 kw_726 kw_727 kw_6 kw_728 ok_X8_sound ⟨by decide, by decide⟩ hk2 ⟨rfl, rfl⟩ rfl rfl rfl rfl rfl (Nat.le_of_ble_eq_true rfl) rfl (N0 := 46) rfl [some 0, some 1, none, some 2, none, none, none, some 3, some 4, some 5, none, none, none, none, none, none, none, none, none, none, none, none, none, none, none, none, none, none, none, none, none, none, none, none, none, none, none, none, none, none, none, none, none, none, none, none] (by decide) rfl (st' := [.int rx]) rfl ?_
  refine g_pop C 594 dL_law_594 rfl ?_
  refine g_aload_n C 595 2 dL_law_595 rfl rfl ?_
  refine g_callB C 596 (P := PW cA qx qm zs zt (σ.1, σ.2.1, σ.2.2.1, σ.2.2.2.1, σ.2.2.2.2) μ) [29, 31, 34, 35] 29 (rest := []) (P' := PW cA qx qm zs zt (σ.1, σ.2.1, σ.2.2.1, σ.2.2.2.1, σ.2.2.2.2) (μ.1, μ.2.1, μ.2.2.1, μ.2.2.2)) dL_law_596 (c_X9_sound (x_l X) cA (qm 0) (μ.1 0) (qm 1) (qm 3) (μ.1 1) (qm 4) (μ.1 2) (qm 7) (μ.1 3) (qm 8) (qm 9) (qm 10) (qm 11) (qm 12) (qm 13) (qm 14) (qm 15) (qm 16) (μ.2.1 0) (μ.2.1 1) (μ.2.1 2) (qm 2) (μ.2.2.1 1) (qm 5) (μ.2.2.1 4) (qm 6) (μ.2.2.1 5)  rm hrm) kw_729 kw_395 kw_396 kw_343 kw_397 ok_X9_sound ⟨by decide, by decide⟩ hk2 ⟨rfl, rfl⟩ rfl rfl rfl rfl rfl (Nat.le_of_ble_eq_true rfl) rfl (N0 := 46) rfl [none, none, none, none, none, none, none, none, none, none, none, none, none, none, none, none, none, none, none, none, none, none, none, none, none, none, none, none, none, some 0, none, some 1, none, none, some 2, some 3, none, none, none, none, none, none, none, none, none, none] (by decide) rfl (st' := [.int rm]) rfl ?_
  refine g_pop C 599 dL_law_599 rfl ?_
  refine g_goto C 600 1030 dL_law_600 (by decide) ?_
  exact K zs zt SS TT kk nn hs ht (by omega) (by omega)

set_option maxRecDepth 100000 in
set_option maxHeartbeats 2000000 in
theorem op_19 {X : XT} {cA : Nat → ClassId} {b L : Nat} {xs : Nat → Int32} (C : Cx X cL_law RL (some .boolean) cA 2048 84000 4) (E : Sx X b L xs) (hL : L < 2 ^ 31) (qx qm : Nat → Nat) (j : Nat) (hj : 5 * j + 5 ≤ L) (zs zt : Value) (SS TT : va_W) (kk nn : Nat) (hk : kk + 50 ≤ (x_R X).cells ∧ nn + 8000 ≤ (x_R X).slots) (σ σ' : XS) (μ μ' : MS) (hs : HS cA σ zs SS) (ht : HT cA qx σ zt TT) (v w : Int32) (hx : sx_width  σ = some (v, σ')) (hm : sm_width  μ = some (w, μ')) (K : ∀ (zs' zt' : Value) (SS' TT' : va_W) (kk' nn' : Nat), HS cA σ' zs' SS' → HT cA qx σ' zt' TT' → kk' ≤ kk + 50 → nn' ≤ nn + 8000 → Go X 4 kk' nn' 1030 (PW cA qx qm zs' zt' σ' μ' ++ (SS' ++ TT')) [(0, .ref b), (1, .ref (qx 0)), (2, .ref (qm 0)), (3, .int (nI (5 * j)))] []) : Go X 4 kk nn 603 (PW cA qx qm zs zt σ μ ++ (SS ++ TT)) [(0, .ref b), (1, .ref (qx 0)), (2, .ref (qm 0)), (3, .int (nI (5 * j)))] [] := by
  unfold sx_width at hx
  obtain ⟨rx, hrx, hx⟩ := cal_some hx
  obtain ⟨e1, e2⟩ := some_pair hx
  subst e1
  subst e2
  unfold sm_width at hm
  obtain ⟨rm, hrm, hm⟩ := cal_some hm
  obtain ⟨e3, e4⟩ := some_pair hm
  subst e3
  subst e4
  have hk2 : kk ≤ (x_R X).cells ∧ nn ≤ (x_R X).slots := ⟨by omega, by omega⟩
  refine g_aload_n C 603 1 dL_law_603 rfl rfl ?_
  refine g_callB C 604 (P := PW cA qx qm zs zt σ μ) [0, 7, 8] 0 (rest := []) (P' := PW cA qx qm zs zt (σ.1, σ.2.1, σ.2.2.1, σ.2.2.2.1, σ.2.2.2.2) μ) dL_law_604 (c_X8_width (x_l X) cA (qx 0) (qx 1) (qx 5) (qx 10) (qx 15) (qx 17) zs zt (qx 7) (qx 9) (σ.1 4) (qx 8) (σ.2.2.1 4)  rx hrx) kw_730 kw_731 kw_732 kw_6 kw_733 ok_X8_width ⟨by decide, by decide⟩ hk2 ⟨rfl, rfl⟩ rfl rfl rfl rfl rfl (Nat.le_of_ble_eq_true rfl) rfl (N0 := 46) rfl [some 0, none, none, none, none, none, none, some 1, some 2, none, none, none, none, none, none, none, none, none, none, none, none, none, none, none, none, none, none, none, none, none, none, none, none, none, none, none, none, none, none, none, none, none, none, none, none, none] (by decide) rfl (st' := [.int rx]) rfl ?_
  refine g_pop C 607 dL_law_607 rfl ?_
  refine g_aload_n C 608 2 dL_law_608 rfl rfl ?_
  refine g_callB C 609 (P := PW cA qx qm zs zt (σ.1, σ.2.1, σ.2.2.1, σ.2.2.2.1, σ.2.2.2.2) μ) [29, 34] 29 (rest := []) (P' := PW cA qx qm zs zt (σ.1, σ.2.1, σ.2.2.1, σ.2.2.2.1, σ.2.2.2.2) (μ.1, μ.2.1, μ.2.2.1, μ.2.2.2)) dL_law_609 (c_X9_width (x_l X) cA (qm 0) (μ.1 0) (qm 1) (qm 2) (qm 3) (μ.1 1) (qm 4) (μ.1 2) (qm 6) (qm 7) (μ.1 3) (qm 8) (qm 9) (qm 10) (qm 11) (qm 12) (qm 13) (qm 14) (qm 15) (qm 16) (μ.2.1 0) (μ.2.1 1) (μ.2.1 2) (qm 5) (μ.2.2.1 4)  rm hrm) kw_734 kw_377 kw_378 kw_343 kw_379 ok_X9_width ⟨by decide, by decide⟩ hk2 ⟨rfl, rfl⟩ rfl rfl rfl rfl rfl (Nat.le_of_ble_eq_true rfl) rfl (N0 := 46) rfl [none, none, none, none, none, none, none, none, none, none, none, none, none, none, none, none, none, none, none, none, none, none, none, none, none, none, none, none, none, some 0, none, none, none, none, some 1, none, none, none, none, none, none, none, none, none, none, none] (by decide) rfl (st' := [.int rm]) rfl ?_
  refine g_pop C 612 dL_law_612 rfl ?_
  refine g_goto C 613 1030 dL_law_613 (by decide) ?_
  exact K zs zt SS TT kk nn hs ht (by omega) (by omega)

set_option maxRecDepth 100000 in
set_option maxHeartbeats 2000000 in
theorem op_20 {X : XT} {cA : Nat → ClassId} {b L : Nat} {xs : Nat → Int32} (C : Cx X cL_law RL (some .boolean) cA 2048 84000 4) (E : Sx X b L xs) (hL : L < 2 ^ 31) (qx qm : Nat → Nat) (j : Nat) (hj : 5 * j + 5 ≤ L) (zs zt : Value) (SS TT : va_W) (kk nn : Nat) (hk : kk + 50 ≤ (x_R X).cells ∧ nn + 8000 ≤ (x_R X).slots) (σ σ' : XS) (μ μ' : MS) (hs : HS cA σ zs SS) (ht : HT cA qx σ zt TT) (v w : Int32) (hx : sx_separator  σ = some (v, σ')) (hm : sm_separator  μ = some (w, μ')) (K : ∀ (zs' zt' : Value) (SS' TT' : va_W) (kk' nn' : Nat), HS cA σ' zs' SS' → HT cA qx σ' zt' TT' → kk' ≤ kk + 50 → nn' ≤ nn + 8000 → Go X 4 kk' nn' 1030 (PW cA qx qm zs' zt' σ' μ' ++ (SS' ++ TT')) [(0, .ref b), (1, .ref (qx 0)), (2, .ref (qm 0)), (3, .int (nI (5 * j)))] []) : Go X 4 kk nn 616 (PW cA qx qm zs zt σ μ ++ (SS ++ TT)) [(0, .ref b), (1, .ref (qx 0)), (2, .ref (qm 0)), (3, .int (nI (5 * j)))] [] := by
  unfold sx_separator at hx
  obtain ⟨rx, hrx, hx⟩ := cal_some hx
  obtain ⟨e1, e2⟩ := some_pair hx
  subst e1
  subst e2
  unfold sm_separator at hm
  obtain ⟨rm, hrm, hm⟩ := cal_some hm
  obtain ⟨e3, e4⟩ := some_pair hm
  subst e3
  subst e4
  have hk2 : kk ≤ (x_R X).cells ∧ nn ≤ (x_R X).slots := ⟨by omega, by omega⟩
  refine g_aload_n C 616 1 dL_law_616 rfl rfl ?_
  refine g_callB C 617 (P := PW cA qx qm zs zt σ μ) [0, 1, 3, 7, 8, 9] 0 (rest := []) (P' := PW cA qx qm zs zt (σ.1, σ.2.1, σ.2.2.1, σ.2.2.2.1, σ.2.2.2.2) μ) dL_law_617 (c_X8_separator (x_l X) cA (qx 0) (qx 5) (qx 10) (qx 15) (qx 17) zs zt (qx 1) (qx 2) (qx 4) (σ.1 0) (σ.1 1) (qx 3) (σ.2.2.1 1) (qx 7) (σ.1 4) (qx 8) (σ.2.2.1 4) (qx 9) (σ.2.2.1 5)  rx hrx) kw_735 kw_736 kw_737 kw_6 kw_738 ok_X8_separator ⟨by decide, by decide⟩ hk2 ⟨rfl, rfl⟩ rfl rfl rfl rfl rfl (Nat.le_of_ble_eq_true rfl) rfl (N0 := 46) rfl [some 0, some 1, none, some 2, none, none, none, some 3, some 4, some 5, none, none, none, none, none, none, none, none, none, none, none, none, none, none, none, none, none, none, none, none, none, none, none, none, none, none, none, none, none, none, none, none, none, none, none, none] (by decide) rfl (st' := [.int rx]) rfl ?_
  refine g_pop C 620 dL_law_620 rfl ?_
  refine g_aload_n C 621 2 dL_law_621 rfl rfl ?_
  refine g_callB C 622 (P := PW cA qx qm zs zt (σ.1, σ.2.1, σ.2.2.1, σ.2.2.2.1, σ.2.2.2.2) μ) [29, 31, 34, 35] 29 (rest := []) (P' := PW cA qx qm zs zt (σ.1, σ.2.1, σ.2.2.1, σ.2.2.2.1, σ.2.2.2.2) (μ.1, μ.2.1, μ.2.2.1, μ.2.2.2)) dL_law_622 (c_X9_separator (x_l X) cA (qm 0) (μ.1 0) (qm 1) (qm 3) (μ.1 1) (qm 4) (μ.1 2) (qm 7) (μ.1 3) (qm 8) (qm 9) (qm 10) (qm 11) (qm 12) (qm 13) (qm 14) (qm 15) (qm 16) (μ.2.1 0) (μ.2.1 1) (μ.2.1 2) (qm 2) (μ.2.2.1 1) (qm 5) (μ.2.2.1 4) (qm 6) (μ.2.2.1 5)  rm hrm) kw_739 kw_740 kw_741 kw_343 kw_742 ok_X9_separator ⟨by decide, by decide⟩ hk2 ⟨rfl, rfl⟩ rfl rfl rfl rfl rfl (Nat.le_of_ble_eq_true rfl) rfl (N0 := 46) rfl [none, none, none, none, none, none, none, none, none, none, none, none, none, none, none, none, none, none, none, none, none, none, none, none, none, none, none, none, none, some 0, none, some 1, none, none, some 2, some 3, none, none, none, none, none, none, none, none, none, none] (by decide) rfl (st' := [.int rm]) rfl ?_
  refine g_pop C 625 dL_law_625 rfl ?_
  refine g_goto C 626 1030 dL_law_626 (by decide) ?_
  exact K zs zt SS TT kk nn hs ht (by omega) (by omega)

set_option maxRecDepth 100000 in
set_option maxHeartbeats 2000000 in
theorem op_21 {X : XT} {cA : Nat → ClassId} {b L : Nat} {xs : Nat → Int32} (C : Cx X cL_law RL (some .boolean) cA 2048 84000 4) (E : Sx X b L xs) (hL : L < 2 ^ 31) (qx qm : Nat → Nat) (j : Nat) (hj : 5 * j + 5 ≤ L) (zs zt : Value) (SS TT : va_W) (kk nn : Nat) (hk : kk + 50 ≤ (x_R X).cells ∧ nn + 8000 ≤ (x_R X).slots) (σ σ' : XS) (μ μ' : MS) (hs : HS cA σ zs SS) (ht : HT cA qx σ zt TT) (v w : Int32) (hx : sx_states (xs (5 * j + 1)) σ = some (v, σ')) (hm : sm_states (xs (5 * j + 1)) μ = some (w, μ')) (K : ∀ (zs' zt' : Value) (SS' TT' : va_W) (kk' nn' : Nat), HS cA σ' zs' SS' → HT cA qx σ' zt' TT' → kk' ≤ kk + 50 → nn' ≤ nn + 8000 → Go X 4 kk' nn' 1030 (PW cA qx qm zs' zt' σ' μ' ++ (SS' ++ TT')) [(0, .ref b), (1, .ref (qx 0)), (2, .ref (qm 0)), (3, .int (nI (5 * j)))] []) : Go X 4 kk nn 629 (PW cA qx qm zs zt σ μ ++ (SS ++ TT)) [(0, .ref b), (1, .ref (qx 0)), (2, .ref (qm 0)), (3, .int (nI (5 * j)))] [] := by
  unfold sx_states at hx
  obtain ⟨rx, hrx, hx⟩ := cal_some hx
  obtain ⟨e1, e2⟩ := some_pair hx
  subst e1
  subst e2
  unfold sm_states at hm
  obtain ⟨rm, hrm, hm⟩ := cal_some hm
  obtain ⟨e3, e4⟩ := some_pair hm
  subst e3
  subst e4
  have hk2 : kk ≤ (x_R X).cells ∧ nn ≤ (x_R X).slots := ⟨by omega, by omega⟩
  refine g_aload_n C 629 1 dL_law_629 rfl rfl ?_
  refine g_aload_n C 630 0 dL_law_630 rfl rfl ?_
  refine g_iload_n C 631 3 dL_law_631 rfl rfl ?_
  refine g_iconst C 632 (1 : Int32) dL_law_632 (by decide) ?_
  refine g_iadd C 633 dL_law_633 ?_
  refine g_sld C 634 E (5 * j + 1) dL_law_634 (nI_add (5 * j) 1) (by omega) hL ?_
  refine g_callB C 635 (P := PW cA qx qm zs zt σ μ) [0, 10, 11, 12, 13, 14] 0 (rest := []) (P' := PW cA qx qm zs zt ((upd σ.1 5 rx.2.1), σ.2.1, (va_up (va_up (va_up (va_up σ.2.2.1 6 rx.2.2.1) 7 rx.2.2.2.1) 8 rx.2.2.2.2.1) 9 rx.2.2.2.2.2), σ.2.2.2.1, σ.2.2.2.2) μ) dL_law_635 (c_X8_states (x_l X) cA (qx 0) (qx 1) (qx 5) (qx 7) (qx 15) (qx 17) zs zt (qx 10) (σ.1 5) (qx 11) (σ.2.2.1 6) (qx 12) (σ.2.2.1 7) (qx 13) (σ.2.2.1 8) (qx 14) (σ.2.2.1 9) (xs (5 * j + 1)) rx hrx) kw_743 kw_744 kw_745 kw_6 kw_746 ok_X8_states ⟨by decide, by decide⟩ hk2 ⟨rfl, rfl⟩ rfl rfl rfl rfl rfl (Nat.le_of_ble_eq_true rfl) rfl (N0 := 46) rfl [some 0, none, none, none, none, none, none, none, none, none, some 1, some 2, some 3, some 4, some 5, none, none, none, none, none, none, none, none, none, none, none, none, none, none, none, none, none, none, none, none, none, none, none, none, none, none, none, none, none, none, none] (by decide) rfl (st' := [.int rx.1]) rfl ?_
  refine g_pop C 638 dL_law_638 rfl ?_
  refine g_aload_n C 639 2 dL_law_639 rfl rfl ?_
  refine g_aload_n C 640 0 dL_law_640 rfl rfl ?_
  refine g_iload_n C 641 3 dL_law_641 rfl rfl ?_
  refine g_iconst C 642 (1 : Int32) dL_law_642 (by decide) ?_
  refine g_iadd C 643 dL_law_643 ?_
  refine g_sld C 644 E (5 * j + 1) dL_law_644 (nI_add (5 * j) 1) (by omega) hL ?_
  refine g_callB C 645 (P := PW cA qx qm zs zt ((upd σ.1 5 rx.2.1), σ.2.1, (va_up (va_up (va_up (va_up σ.2.2.1 6 rx.2.2.1) 7 rx.2.2.2.1) 8 rx.2.2.2.2.1) 9 rx.2.2.2.2.2), σ.2.2.2.1, σ.2.2.2.2) μ) [29, 37, 38, 39, 40] 29 (rest := []) (P' := PW cA qx qm zs zt ((upd σ.1 5 rx.2.1), σ.2.1, (va_up (va_up (va_up (va_up σ.2.2.1 6 rx.2.2.1) 7 rx.2.2.2.1) 8 rx.2.2.2.2.1) 9 rx.2.2.2.2.2), σ.2.2.2.1, σ.2.2.2.2) ((upd μ.1 3 rm.2.1), μ.2.1, (va_up (va_up (va_up (va_up μ.2.2.1 7 rm.2.2.1) 8 rm.2.2.2.1) 9 rm.2.2.2.2.1) 10 rm.2.2.2.2.2), μ.2.2.2)) dL_law_645 (c_X9_states (x_l X) cA (qm 0) (μ.1 0) (qm 1) (qm 2) (qm 3) (μ.1 1) (qm 4) (μ.1 2) (qm 5) (qm 6) (qm 7) (μ.1 3) (qm 12) (qm 13) (qm 14) (qm 15) (qm 16) (μ.2.1 0) (μ.2.1 1) (μ.2.1 2) (qm 8) (μ.2.2.1 7) (qm 9) (μ.2.2.1 8) (qm 10) (μ.2.2.1 9) (qm 11) (μ.2.2.1 10) (xs (5 * j + 1)) rm hrm) kw_747 kw_748 kw_749 kw_343 kw_750 ok_X9_states ⟨by decide, by decide⟩ hk2 ⟨rfl, rfl⟩ rfl rfl rfl rfl rfl (Nat.le_of_ble_eq_true rfl) rfl (N0 := 46) rfl [none, none, none, none, none, none, none, none, none, none, none, none, none, none, none, none, none, none, none, none, none, none, none, none, none, none, none, none, none, some 0, none, none, none, none, none, none, none, some 1, some 2, some 3, some 4, none, none, none, none, none] (by decide) rfl (st' := [.int rm.1]) rfl ?_
  refine g_pop C 648 dL_law_648 rfl ?_
  refine g_goto C 649 1030 dL_law_649 (by decide) ?_
  exact K zs zt SS TT kk nn hs ht (by omega) (by omega)

set_option maxRecDepth 100000 in
set_option maxHeartbeats 2000000 in
theorem op_22 {X : XT} {cA : Nat → ClassId} {b L : Nat} {xs : Nat → Int32} (C : Cx X cL_law RL (some .boolean) cA 2048 84000 4) (E : Sx X b L xs) (hL : L < 2 ^ 31) (qx qm : Nat → Nat) (j : Nat) (hj : 5 * j + 5 ≤ L) (zs zt : Value) (SS TT : va_W) (kk nn : Nat) (hk : kk + 50 ≤ (x_R X).cells ∧ nn + 8000 ≤ (x_R X).slots) (σ σ' : XS) (μ μ' : MS) (hs : HS cA σ zs SS) (ht : HT cA qx σ zt TT) (v w : Int32) (hx : sx_factor (xs (5 * j + 1)) (xs (5 * j + 2)) σ = some (v, σ')) (hm : sm_factor (xs (5 * j + 1)) (xs (5 * j + 2)) μ = some (w, μ')) (K : ∀ (zs' zt' : Value) (SS' TT' : va_W) (kk' nn' : Nat), HS cA σ' zs' SS' → HT cA qx σ' zt' TT' → kk' ≤ kk + 50 → nn' ≤ nn + 8000 → Go X 4 kk' nn' 1030 (PW cA qx qm zs' zt' σ' μ' ++ (SS' ++ TT')) [(0, .ref b), (1, .ref (qx 0)), (2, .ref (qm 0)), (3, .int (nI (5 * j)))] []) : Go X 4 kk nn 652 (PW cA qx qm zs zt σ μ ++ (SS ++ TT)) [(0, .ref b), (1, .ref (qx 0)), (2, .ref (qm 0)), (3, .int (nI (5 * j)))] [] := by
  unfold sx_factor at hx
  obtain ⟨rx, hrx, hx⟩ := cal_some hx
  obtain ⟨e1, e2⟩ := some_pair hx
  subst e1
  subst e2
  unfold sm_factor at hm
  obtain ⟨rm, hrm, hm⟩ := cal_some hm
  obtain ⟨e3, e4⟩ := some_pair hm
  subst e3
  subst e4
  have hk2 : kk ≤ (x_R X).cells ∧ nn ≤ (x_R X).slots := ⟨by omega, by omega⟩
  refine g_aload_n C 652 1 dL_law_652 rfl rfl ?_
  refine g_aload_n C 653 0 dL_law_653 rfl rfl ?_
  refine g_iload_n C 654 3 dL_law_654 rfl rfl ?_
  refine g_iconst C 655 (1 : Int32) dL_law_655 (by decide) ?_
  refine g_iadd C 656 dL_law_656 ?_
  refine g_sld C 657 E (5 * j + 1) dL_law_657 (nI_add (5 * j) 1) (by omega) hL ?_
  refine g_aload_n C 658 0 dL_law_658 rfl rfl ?_
  refine g_iload_n C 659 3 dL_law_659 rfl rfl ?_
  refine g_iconst C 660 (2 : Int32) dL_law_660 (by decide) ?_
  refine g_iadd C 661 dL_law_661 ?_
  refine g_sld C 662 E (5 * j + 2) dL_law_662 (nI_add (5 * j) 2) (by omega) hL ?_
  refine g_callB C 663 (P := PW cA qx qm zs zt σ μ) [0, 10, 11] 0 (rest := []) (P' := PW cA qx qm zs zt (σ.1, σ.2.1, (va_up σ.2.2.1 6 rx.2), σ.2.2.2.1, σ.2.2.2.2) μ) dL_law_663 (c_X8_factor (x_l X) cA (qx 0) (qx 1) (qx 5) (qx 7) (qx 15) (qx 17) zs zt (qx 10) (σ.1 5) (qx 12) (qx 13) (qx 14) (qx 11) (σ.2.2.1 6) (xs (5 * j + 1)) (xs (5 * j + 2)) rx hrx) kw_751 kw_752 kw_753 kw_6 kw_754 ok_X8_factor ⟨by decide, by decide⟩ hk2 ⟨rfl, rfl⟩ rfl rfl rfl rfl rfl (Nat.le_of_ble_eq_true rfl) rfl (N0 := 46) rfl [some 0, none, none, none, none, none, none, none, none, none, some 1, some 2, none, none, none, none, none, none, none, none, none, none, none, none, none, none, none, none, none, none, none, none, none, none, none, none, none, none, none, none, none, none, none, none, none, none] (by decide) rfl (st' := [.int rx.1]) rfl ?_
  refine g_pop C 666 dL_law_666 rfl ?_
  refine g_aload_n C 667 2 dL_law_667 rfl rfl ?_
  refine g_aload_n C 668 0 dL_law_668 rfl rfl ?_
  refine g_iload_n C 669 3 dL_law_669 rfl rfl ?_
  refine g_iconst C 670 (1 : Int32) dL_law_670 (by decide) ?_
  refine g_iadd C 671 dL_law_671 ?_
  refine g_sld C 672 E (5 * j + 1) dL_law_672 (nI_add (5 * j) 1) (by omega) hL ?_
  refine g_aload_n C 673 0 dL_law_673 rfl rfl ?_
  refine g_iload_n C 674 3 dL_law_674 rfl rfl ?_
  refine g_iconst C 675 (2 : Int32) dL_law_675 (by decide) ?_
  refine g_iadd C 676 dL_law_676 ?_
  refine g_sld C 677 E (5 * j + 2) dL_law_677 (nI_add (5 * j) 2) (by omega) hL ?_
  refine g_callB C 678 (P := PW cA qx qm zs zt (σ.1, σ.2.1, (va_up σ.2.2.1 6 rx.2), σ.2.2.2.1, σ.2.2.2.2) μ) [29, 37] 29 (rest := []) (P' := PW cA qx qm zs zt (σ.1, σ.2.1, (va_up σ.2.2.1 6 rx.2), σ.2.2.2.1, σ.2.2.2.2) (μ.1, μ.2.1, (va_up μ.2.2.1 7 rm.2), μ.2.2.2)) dL_law_678 (c_X9_factor (x_l X) cA (qm 0) (μ.1 0) (qm 1) (qm 2) (qm 3) (μ.1 1) (qm 4) (μ.1 2) (qm 5) (qm 6) (qm 7) (μ.1 3) (qm 9) (qm 10) (qm 11) (qm 12) (qm 13) (qm 14) (qm 15) (qm 16) (μ.2.1 0) (μ.2.1 1) (μ.2.1 2) (qm 8) (μ.2.2.1 7) (xs (5 * j + 1)) (xs (5 * j + 2)) rm hrm) kw_755 kw_756 kw_757 kw_343 kw_758 ok_X9_factor ⟨by decide, by decide⟩ hk2 ⟨rfl, rfl⟩ rfl rfl rfl rfl rfl (Nat.le_of_ble_eq_true rfl) rfl (N0 := 46) rfl [none, none, none, none, none, none, none, none, none, none, none, none, none, none, none, none, none, none, none, none, none, none, none, none, none, none, none, none, none, some 0, none, none, none, none, none, none, none, some 1, none, none, none, none, none, none, none, none] (by decide) rfl (st' := [.int rm.1]) rfl ?_
  refine g_pop C 681 dL_law_681 rfl ?_
  refine g_goto C 682 1030 dL_law_682 (by decide) ?_
  exact K zs zt SS TT kk nn hs ht (by omega) (by omega)

set_option maxRecDepth 100000 in
set_option maxHeartbeats 2000000 in
theorem op_23 {X : XT} {cA : Nat → ClassId} {b L : Nat} {xs : Nat → Int32} (C : Cx X cL_law RL (some .boolean) cA 2048 84000 4) (E : Sx X b L xs) (hL : L < 2 ^ 31) (qx qm : Nat → Nat) (j : Nat) (hj : 5 * j + 5 ≤ L) (zs zt : Value) (SS TT : va_W) (kk nn : Nat) (hk : kk + 50 ≤ (x_R X).cells ∧ nn + 8000 ≤ (x_R X).slots) (σ σ' : XS) (μ μ' : MS) (hs : HS cA σ zs SS) (ht : HT cA qx σ zt TT) (v w : Int32) (hx : sx_pair (xs (5 * j + 1)) (xs (5 * j + 2)) (xs (5 * j + 3)) (xs (5 * j + 4)) σ = some (v, σ')) (hm : sm_pair (xs (5 * j + 1)) (xs (5 * j + 2)) (xs (5 * j + 3)) (xs (5 * j + 4)) μ = some (w, μ')) (K : ∀ (zs' zt' : Value) (SS' TT' : va_W) (kk' nn' : Nat), HS cA σ' zs' SS' → HT cA qx σ' zt' TT' → kk' ≤ kk + 50 → nn' ≤ nn + 8000 → Go X 4 kk' nn' 1030 (PW cA qx qm zs' zt' σ' μ' ++ (SS' ++ TT')) [(0, .ref b), (1, .ref (qx 0)), (2, .ref (qm 0)), (3, .int (nI (5 * j)))] []) : Go X 4 kk nn 685 (PW cA qx qm zs zt σ μ ++ (SS ++ TT)) [(0, .ref b), (1, .ref (qx 0)), (2, .ref (qm 0)), (3, .int (nI (5 * j)))] [] := by
  unfold sx_pair at hx
  obtain ⟨rx, hrx, hx⟩ := cal_some hx
  obtain ⟨e1, e2⟩ := some_pair hx
  subst e1
  subst e2
  unfold sm_pair at hm
  obtain ⟨rm, hrm, hm⟩ := cal_some hm
  obtain ⟨e3, e4⟩ := some_pair hm
  subst e3
  subst e4
  have hk2 : kk ≤ (x_R X).cells ∧ nn ≤ (x_R X).slots := ⟨by omega, by omega⟩
  refine g_aload_n C 685 1 dL_law_685 rfl rfl ?_
  refine g_aload_n C 686 0 dL_law_686 rfl rfl ?_
  refine g_iload_n C 687 3 dL_law_687 rfl rfl ?_
  refine g_iconst C 688 (1 : Int32) dL_law_688 (by decide) ?_
  refine g_iadd C 689 dL_law_689 ?_
  refine g_sld C 690 E (5 * j + 1) dL_law_690 (nI_add (5 * j) 1) (by omega) hL ?_
  refine g_aload_n C 691 0 dL_law_691 rfl rfl ?_
  refine g_iload_n C 692 3 dL_law_692 rfl rfl ?_
  refine g_iconst C 693 (2 : Int32) dL_law_693 (by decide) ?_
  refine g_iadd C 694 dL_law_694 ?_
  refine g_sld C 695 E (5 * j + 2) dL_law_695 (nI_add (5 * j) 2) (by omega) hL ?_
  refine g_aload_n C 696 0 dL_law_696 rfl rfl ?_
  refine g_iload_n C 697 3 dL_law_697 rfl rfl ?_
  refine g_iconst C 698 (3 : Int32) dL_law_698 (by decide) ?_
  refine g_iadd C 699 dL_law_699 ?_
  refine g_sld C 700 E (5 * j + 3) dL_law_700 (nI_add (5 * j) 3) (by omega) hL ?_
  refine g_aload_n C 701 0 dL_law_701 rfl rfl ?_
  refine g_iload_n C 702 3 dL_law_702 rfl rfl ?_
  refine g_iconst C 703 (4 : Int32) dL_law_703 (by decide) ?_
  refine g_iadd C 704 dL_law_704 ?_
  refine g_sld C 705 E (5 * j + 4) dL_law_705 (nI_add (5 * j) 4) (by omega) hL ?_
  refine g_callB C 706 (P := PW cA qx qm zs zt σ μ) [0, 10, 12, 13] 0 (rest := []) (P' := PW cA qx qm zs zt (σ.1, σ.2.1, (va_up (va_up σ.2.2.1 7 rx.2.1) 8 rx.2.2), σ.2.2.2.1, σ.2.2.2.2) μ) dL_law_706 (c_X8_pair (x_l X) cA (qx 0) (qx 1) (qx 5) (qx 7) (qx 15) (qx 17) zs zt (qx 10) (σ.1 5) (qx 11) (qx 14) (qx 12) (σ.2.2.1 7) (qx 13) (σ.2.2.1 8) (xs (5 * j + 1)) (xs (5 * j + 2)) (xs (5 * j + 3)) (xs (5 * j + 4)) rx hrx) kw_759 kw_760 kw_761 kw_6 kw_762 ok_X8_pair ⟨by decide, by decide⟩ hk2 ⟨rfl, rfl⟩ rfl rfl rfl rfl rfl (Nat.le_of_ble_eq_true rfl) rfl (N0 := 46) rfl [some 0, none, none, none, none, none, none, none, none, none, some 1, none, some 2, some 3, none, none, none, none, none, none, none, none, none, none, none, none, none, none, none, none, none, none, none, none, none, none, none, none, none, none, none, none, none, none, none, none] (by decide) rfl (st' := [.int rx.1]) rfl ?_
  refine g_pop C 709 dL_law_709 rfl ?_
  refine g_aload_n C 710 2 dL_law_710 rfl rfl ?_
  refine g_aload_n C 711 0 dL_law_711 rfl rfl ?_
  refine g_iload_n C 712 3 dL_law_712 rfl rfl ?_
  refine g_iconst C 713 (1 : Int32) dL_law_713 (by decide) ?_
  refine g_iadd C 714 dL_law_714 ?_
  refine g_sld C 715 E (5 * j + 1) dL_law_715 (nI_add (5 * j) 1) (by omega) hL ?_
  refine g_aload_n C 716 0 dL_law_716 rfl rfl ?_
  refine g_iload_n C 717 3 dL_law_717 rfl rfl ?_
  refine g_iconst C 718 (2 : Int32) dL_law_718 (by decide) ?_
  refine g_iadd C 719 dL_law_719 ?_
  refine g_sld C 720 E (5 * j + 2) dL_law_720 (nI_add (5 * j) 2) (by omega) hL ?_
  refine g_aload_n C 721 0 dL_law_721 rfl rfl ?_
  refine g_iload_n C 722 3 dL_law_722 rfl rfl ?_
  refine g_iconst C 723 (3 : Int32) dL_law_723 (by decide) ?_
  refine g_iadd C 724 dL_law_724 ?_
  refine g_sld C 725 E (5 * j + 3) dL_law_725 (nI_add (5 * j) 3) (by omega) hL ?_
  refine g_aload_n C 726 0 dL_law_726 rfl rfl ?_
  refine g_iload_n C 727 3 dL_law_727 rfl rfl ?_
  refine g_iconst C 728 (4 : Int32) dL_law_728 (by decide) ?_
  refine g_iadd C 729 dL_law_729 ?_
  refine g_sld C 730 E (5 * j + 4) dL_law_730 (nI_add (5 * j) 4) (by omega) hL ?_
  refine g_callB C 731 (P := PW cA qx qm zs zt (σ.1, σ.2.1, (va_up (va_up σ.2.2.1 7 rx.2.1) 8 rx.2.2), σ.2.2.2.1, σ.2.2.2.2) μ) [29, 38, 40] 29 (rest := []) (P' := PW cA qx qm zs zt (σ.1, σ.2.1, (va_up (va_up σ.2.2.1 7 rx.2.1) 8 rx.2.2), σ.2.2.2.1, σ.2.2.2.2) (μ.1, μ.2.1, (va_up (va_up μ.2.2.1 8 rm.2.1) 10 rm.2.2), μ.2.2.2)) dL_law_731 (c_X9_pair (x_l X) cA (qm 0) (μ.1 0) (qm 1) (qm 2) (qm 3) (μ.1 1) (qm 4) (μ.1 2) (qm 5) (qm 6) (qm 7) (μ.1 3) (qm 8) (qm 10) (qm 12) (qm 13) (qm 14) (qm 15) (qm 16) (μ.2.1 0) (μ.2.1 1) (μ.2.1 2) (qm 9) (μ.2.2.1 8) (qm 11) (μ.2.2.1 10) (xs (5 * j + 1)) (xs (5 * j + 2)) (xs (5 * j + 3)) (xs (5 * j + 4)) rm hrm) kw_763 kw_764 kw_765 kw_343 kw_766 ok_X9_pair ⟨by decide, by decide⟩ hk2 ⟨rfl, rfl⟩ rfl rfl rfl rfl rfl (Nat.le_of_ble_eq_true rfl) rfl (N0 := 46) rfl [none, none, none, none, none, none, none, none, none, none, none, none, none, none, none, none, none, none, none, none, none, none, none, none, none, none, none, none, none, some 0, none, none, none, none, none, none, none, none, some 1, none, some 2, none, none, none, none, none] (by decide) rfl (st' := [.int rm.1]) rfl ?_
  refine g_pop C 734 dL_law_734 rfl ?_
  refine g_goto C 735 1030 dL_law_735 (by decide) ?_
  exact K zs zt SS TT kk nn hs ht (by omega) (by omega)

set_option maxRecDepth 100000 in
set_option maxHeartbeats 2000000 in
theorem op_24 {X : XT} {cA : Nat → ClassId} {b L : Nat} {xs : Nat → Int32} (C : Cx X cL_law RL (some .boolean) cA 2048 84000 4) (E : Sx X b L xs) (hL : L < 2 ^ 31) (qx qm : Nat → Nat) (j : Nat) (hj : 5 * j + 5 ≤ L) (zs zt : Value) (SS TT : va_W) (kk nn : Nat) (hk : kk + 50 ≤ (x_R X).cells ∧ nn + 8000 ≤ (x_R X).slots) (σ σ' : XS) (μ μ' : MS) (hs : HS cA σ zs SS) (ht : HT cA qx σ zt TT) (v w : Int32) (hx : sx_forbid (xs (5 * j + 1)) (xs (5 * j + 2)) σ = some (v, σ')) (hm : sm_forbid (xs (5 * j + 1)) (xs (5 * j + 2)) μ = some (w, μ')) (K : ∀ (zs' zt' : Value) (SS' TT' : va_W) (kk' nn' : Nat), HS cA σ' zs' SS' → HT cA qx σ' zt' TT' → kk' ≤ kk + 50 → nn' ≤ nn + 8000 → Go X 4 kk' nn' 1030 (PW cA qx qm zs' zt' σ' μ' ++ (SS' ++ TT')) [(0, .ref b), (1, .ref (qx 0)), (2, .ref (qm 0)), (3, .int (nI (5 * j)))] []) : Go X 4 kk nn 738 (PW cA qx qm zs zt σ μ ++ (SS ++ TT)) [(0, .ref b), (1, .ref (qx 0)), (2, .ref (qm 0)), (3, .int (nI (5 * j)))] [] := by
  unfold sx_forbid at hx
  obtain ⟨rx, hrx, hx⟩ := cal_some hx
  obtain ⟨e1, e2⟩ := some_pair hx
  subst e1
  subst e2
  unfold sm_forbid at hm
  obtain ⟨rm, hrm, hm⟩ := cal_some hm
  obtain ⟨e3, e4⟩ := some_pair hm
  subst e3
  subst e4
  have hk2 : kk ≤ (x_R X).cells ∧ nn ≤ (x_R X).slots := ⟨by omega, by omega⟩
  refine g_aload_n C 738 1 dL_law_738 rfl rfl ?_
  refine g_aload_n C 739 0 dL_law_739 rfl rfl ?_
  refine g_iload_n C 740 3 dL_law_740 rfl rfl ?_
  refine g_iconst C 741 (1 : Int32) dL_law_741 (by decide) ?_
  refine g_iadd C 742 dL_law_742 ?_
  refine g_sld C 743 E (5 * j + 1) dL_law_743 (nI_add (5 * j) 1) (by omega) hL ?_
  refine g_aload_n C 744 0 dL_law_744 rfl rfl ?_
  refine g_iload_n C 745 3 dL_law_745 rfl rfl ?_
  refine g_iconst C 746 (2 : Int32) dL_law_746 (by decide) ?_
  refine g_iadd C 747 dL_law_747 ?_
  refine g_sld C 748 E (5 * j + 2) dL_law_748 (nI_add (5 * j) 2) (by omega) hL ?_
  refine g_callB C 749 (P := PW cA qx qm zs zt σ μ) [0, 1, 10, 14] 0 (rest := []) (P' := PW cA qx qm zs zt (σ.1, σ.2.1, (va_up σ.2.2.1 9 rx.2), σ.2.2.2.1, σ.2.2.2.2) μ) dL_law_749 (c_X8_forbid (x_l X) cA (qx 0) (qx 5) (qx 7) (qx 15) (qx 17) zs zt (qx 1) (qx 2) (qx 3) (qx 4) (σ.1 0) (σ.1 1) (qx 10) (σ.1 5) (qx 11) (qx 12) (qx 13) (qx 14) (σ.2.2.1 9) (xs (5 * j + 1)) (xs (5 * j + 2)) rx hrx) kw_767 kw_768 kw_769 kw_6 kw_770 ok_X8_forbid ⟨by decide, by decide⟩ hk2 ⟨rfl, rfl⟩ rfl rfl rfl rfl rfl (Nat.le_of_ble_eq_true rfl) rfl (N0 := 46) rfl [some 0, some 1, none, none, none, none, none, none, none, none, some 2, none, none, none, some 3, none, none, none, none, none, none, none, none, none, none, none, none, none, none, none, none, none, none, none, none, none, none, none, none, none, none, none, none, none, none, none] (by decide) rfl (st' := [.int rx.1]) rfl ?_
  refine g_pop C 752 dL_law_752 rfl ?_
  refine g_aload_n C 753 2 dL_law_753 rfl rfl ?_
  refine g_aload_n C 754 0 dL_law_754 rfl rfl ?_
  refine g_iload_n C 755 3 dL_law_755 rfl rfl ?_
  refine g_iconst C 756 (1 : Int32) dL_law_756 (by decide) ?_
  refine g_iadd C 757 dL_law_757 ?_
  refine g_sld C 758 E (5 * j + 1) dL_law_758 (nI_add (5 * j) 1) (by omega) hL ?_
  refine g_aload_n C 759 0 dL_law_759 rfl rfl ?_
  refine g_iload_n C 760 3 dL_law_760 rfl rfl ?_
  refine g_iconst C 761 (2 : Int32) dL_law_761 (by decide) ?_
  refine g_iadd C 762 dL_law_762 ?_
  refine g_sld C 763 E (5 * j + 2) dL_law_763 (nI_add (5 * j) 2) (by omega) hL ?_
  refine g_callB C 764 (P := PW cA qx qm zs zt (σ.1, σ.2.1, (va_up σ.2.2.1 9 rx.2), σ.2.2.2.1, σ.2.2.2.2) μ) [29, 39] 29 (rest := []) (P' := PW cA qx qm zs zt (σ.1, σ.2.1, (va_up σ.2.2.1 9 rx.2), σ.2.2.2.1, σ.2.2.2.2) (μ.1, μ.2.1, (va_up μ.2.2.1 9 rm.2), μ.2.2.2)) dL_law_764 (c_X9_forbid (x_l X) cA (qm 0) (μ.1 0) (qm 1) (qm 2) (qm 3) (μ.1 1) (qm 4) (μ.1 2) (qm 5) (qm 6) (qm 7) (μ.1 3) (qm 8) (qm 9) (qm 11) (qm 12) (qm 13) (qm 14) (qm 15) (qm 16) (μ.2.1 0) (μ.2.1 1) (μ.2.1 2) (qm 10) (μ.2.2.1 9) (xs (5 * j + 1)) (xs (5 * j + 2)) rm hrm) kw_771 kw_772 kw_773 kw_343 kw_774 ok_X9_forbid ⟨by decide, by decide⟩ hk2 ⟨rfl, rfl⟩ rfl rfl rfl rfl rfl (Nat.le_of_ble_eq_true rfl) rfl (N0 := 46) rfl [none, none, none, none, none, none, none, none, none, none, none, none, none, none, none, none, none, none, none, none, none, none, none, none, none, none, none, none, none, some 0, none, none, none, none, none, none, none, none, none, some 1, none, none, none, none, none, none] (by decide) rfl (st' := [.int rm.1]) rfl ?_
  refine g_pop C 767 dL_law_767 rfl ?_
  refine g_goto C 768 1030 dL_law_768 (by decide) ?_
  exact K zs zt SS TT kk nn hs ht (by omega) (by omega)

set_option maxRecDepth 100000 in
set_option maxHeartbeats 2000000 in
theorem xc_op_25 {X : XT} {cA : Nat → ClassId} {b L : Nat} {xs : Nat → Int32} (C : Cx X cL_law RL (some .boolean) cA 2048 84000 4) (E : Sx X b L xs) (hL : L < 2 ^ 31) (qx qm : Nat → Nat) (j : Nat) (hj : 5 * j + 5 ≤ L) (zs zt : Value) (SS TT : va_W) (kk nn : Nat) (hk : kk + 50 ≤ (x_R X).cells ∧ nn + 8000 ≤ (x_R X).slots) (σ σ' : XS) (μ : MS) (hs : HS cA σ zs SS) (ht : HT cA qx σ zt TT) (v : Int64) (hx : sx_ways  σ = some (v, σ')) (K : ∀ (zs' zt' : Value) (SS' TT' : va_W) (kk' nn' : Nat), HS cA σ' zs' SS' → HT cA qx σ' zt' TT' → kk' ≤ kk + 50 → nn' ≤ nn + 8000 → Go X 4 kk' nn' 775 (PW cA qx qm zs' zt' σ' μ ++ (SS' ++ TT')) [(0, .ref b), (1, .ref (qx 0)), (2, .ref (qm 0)), (3, .int (nI (5 * j)))] [.long v]) : Go X 4 kk nn 772 (PW cA qx qm zs zt σ μ ++ (SS ++ TT)) [(0, .ref b), (1, .ref (qx 0)), (2, .ref (qm 0)), (3, .int (nI (5 * j)))] [.ref (qx 0)] := by
  unfold sx_ways at hx
  obtain ⟨rx, hrx, hx⟩ := cal_some hx
  obtain ⟨e1, e2⟩ := some_pair hx
  subst e1
  subst e2
  rcases ht with ⟨rfl, rfl, hz⟩ | ⟨qt, rfl, rfl⟩
  · obtain ⟨z0, z1, z2, z3, z4, z5, z6, z7, z8, z9, z10, z11, z12, z13⟩ := id hz
    have hrz := hrx
    simp only [z0, z1, z2, z3, z4, z5, z6, z7, z8, z9, z10, z11, z12, z13] at hrz
    refine g_callNB C 772 (P := PW cA qx qm zs .null σ μ) (S := SS ++ []) [0, 1, 2, 3, 4, 7, 8, 9, 10, 11, 12, 13, 14, 17, 18, 19, 20, 21, 22, 23, 24, 25, 26, 27, 28] 0 (rest := []) (kk + 8) (nn + 7339) dL_law_772 (c_X8_waysA (x_l X) cA (qx 0) (qx 5) (qx 15) zs (qx 1) (σ.1 0) (σ.1 1) (qx 2) (σ.2.2.1 0) (qx 3) (σ.2.2.1 1) (qx 4) (σ.2.2.1 2) (qx 7) (σ.1 4) (qx 8) (σ.2.2.1 4) (qx 9) (σ.2.2.1 5) (qx 10) (σ.1 5) (qx 11) (σ.2.2.1 6) (qx 12) (σ.2.2.1 7) (qx 13) (σ.2.2.1 8) (qx 14) (σ.2.2.1 9) (qx 17) (σ.1 8) (qx 18) (σ.2.2.1 11) (qx 19) (σ.2.2.1 12) (qx 20) (σ.2.2.1 13) (qx 21) (σ.2.2.1 14) (qx 22) (σ.2.2.1 15) (qx 23) (σ.2.2.1 16) (qx 24) (σ.2.2.1 17) (qx 25) (σ.2.2.1 18) (qx 26) (σ.2.2.1 19) (qx 27) (σ.1 9) (σ.1 10) (qx 28) (σ.2.2.1 20)  rx hrz) kw_779 kw_780 kw_781 kw_6 kw_782 ok_X8_ways ⟨by decide, by decide⟩ ⟨by omega, by omega⟩ rfl rfl rfl rfl rfl rfl rfl (Nat.le_of_ble_eq_true rfl) (N0 := 46) rfl [some 0, some 1, some 2, some 3, some 4, none, none, some 5, some 6, some 7, some 8, some 9, some 10, some 11, some 12, none, none, some 13, some 14, some 15, some 16, some 17, some 18, some 19, some 20, some 21, some 22, some 23, some 24, none, none, none, none, none, none, none, none, none, none, none, none, none, none, none, none, none] (by decide) ?_
    intro res wz hB
    rcases hB with ⟨he, rfl, rfl⟩ | ⟨t0, t1, t2, t3, t4, t5, t6, t7, rfl, rfl⟩
    · obtain ⟨v, r2⟩ := rx
      dsimp only at he
      subst he
      refine ⟨_, [], (List.append_nil _).symm, rfl, ?_⟩
      rw [List.append_nil, List.append_nil]
      have h := K zs .null SS [] (kk + 8) (nn + 7339) hs (Or.inl ⟨rfl, rfl, rfl, rfl, rfl, rfl, rfl, z5, z6, rfl, rfl, rfl, rfl, rfl, rfl, rfl⟩) (by omega) (by omega)
      rw [List.append_nil] at h
      exact h
    · have e9 : ∀ (n0 : Int32) (n1 : Int64), n0 = 0 → n1 = 0 → ([oB t0 7 [.ref t1, .int rx.2.2.2.2.2.2.2.2.2.2.2.2.2.2.1, .int rx.2.2.2.2.2.2.2.2.2.2.2.2.2.2.2.1, .ref (qx 1), .ref (qx 10), .ref (qx 17), .ref t2, .ref t3, .ref t4, .ref t5, .ref t6, .ref t7, .int rx.2.2.2.2.2.2.2.2.2.2.2.2.2.2.2.2.1, .int rx.2.2.2.2.2.2.2.2.2.2.2.2.2.2.2.2.2.1, .int rx.2.2.2.2.2.2.2.2.2.2.2.2.2.2.2.2.2.2.1, .int 0, .long 0], aI cA t1 14 rx.2.2.2.2.2.2.2.2.2.2.2.2.2.2.2.2.2.2.2.1, aI cA t2 56 rx.2.2.2.2.2.2.2.2.2.2.2.2.2.2.2.2.2.2.2.2.1, aI cA t3 14 rx.2.2.2.2.2.2.2.2.2.2.2.2.2.2.2.2.2.2.2.2.2.1, aI cA t4 14 rx.2.2.2.2.2.2.2.2.2.2.2.2.2.2.2.2.2.2.2.2.2.2.1, aI cA t5 56 rx.2.2.2.2.2.2.2.2.2.2.2.2.2.2.2.2.2.2.2.2.2.2.2.1, aI cA t6 3584 rx.2.2.2.2.2.2.2.2.2.2.2.2.2.2.2.2.2.2.2.2.2.2.2.2.1, aI cA t7 3584 rx.2.2.2.2.2.2.2.2.2.2.2.2.2.2.2.2.2.2.2.2.2.2.2.2.2] : va_W) = [oB t0 7 [.ref t1, .int rx.2.2.2.2.2.2.2.2.2.2.2.2.2.2.1, .int rx.2.2.2.2.2.2.2.2.2.2.2.2.2.2.2.1, .ref (qx 1), .ref (qx 10), .ref (qx 17), .ref t2, .ref t3, .ref t4, .ref t5, .ref t6, .ref t7, .int rx.2.2.2.2.2.2.2.2.2.2.2.2.2.2.2.2.1, .int rx.2.2.2.2.2.2.2.2.2.2.2.2.2.2.2.2.2.1, .int rx.2.2.2.2.2.2.2.2.2.2.2.2.2.2.2.2.2.2.1, .int n0, .long n1], aI cA t1 14 rx.2.2.2.2.2.2.2.2.2.2.2.2.2.2.2.2.2.2.2.1, aI cA t2 56 rx.2.2.2.2.2.2.2.2.2.2.2.2.2.2.2.2.2.2.2.2.1, aI cA t3 14 rx.2.2.2.2.2.2.2.2.2.2.2.2.2.2.2.2.2.2.2.2.2.1, aI cA t4 14 rx.2.2.2.2.2.2.2.2.2.2.2.2.2.2.2.2.2.2.2.2.2.2.1, aI cA t5 56 rx.2.2.2.2.2.2.2.2.2.2.2.2.2.2.2.2.2.2.2.2.2.2.2.1, aI cA t6 3584 rx.2.2.2.2.2.2.2.2.2.2.2.2.2.2.2.2.2.2.2.2.2.2.2.2.1, aI cA t7 3584 rx.2.2.2.2.2.2.2.2.2.2.2.2.2.2.2.2.2.2.2.2.2.2.2.2.2] := by
        intro n0 n1 g0 g1
        subst g0; subst g1
        rfl
      refine ⟨_, _, rfl, rfl, ?_⟩
      rw [List.append_nil, List.append_assoc]
      exact K zs (.ref t0) SS _ (kk + 8) (nn + 7339) hs (Or.inr ⟨fun i => match i with | 0 => t0 | 1 => t1 | 2 => t2 | 3 => t3 | 4 => t4 | 5 => t5 | 6 => t6 | _ => t7, rfl, e9 _ _ z5 z6⟩) (by omega) (by omega)
  · refine g_perm perm3 ?_
    refine g_callB C 772 (P := PW cA qx qm zs (.ref (qt 0)) σ μ ++ TW cA qx qt σ) [0, 1, 2, 3, 4, 7, 8, 9, 10, 11, 12, 13, 14, 17, 18, 19, 20, 21, 22, 23, 24, 25, 26, 27, 28, 46, 47, 48, 49, 50, 51, 52, 53] 0 (rest := []) (P' := PW cA qx qm zs (.ref (qt 0)) ((upd (upd (upd (upd (upd (upd (upd (upd σ.1 8 rx.2.1) 9 rx.2.2.2.2.2.2.2.2.2.2.2.1) 10 rx.2.2.2.2.2.2.2.2.2.2.2.2.1) 11 rx.2.2.2.2.2.2.2.2.2.2.2.2.2.2.1) 12 rx.2.2.2.2.2.2.2.2.2.2.2.2.2.2.2.1) 13 rx.2.2.2.2.2.2.2.2.2.2.2.2.2.2.2.2.1) 14 rx.2.2.2.2.2.2.2.2.2.2.2.2.2.2.2.2.2.1) 15 rx.2.2.2.2.2.2.2.2.2.2.2.2.2.2.2.2.2.2.1), σ.2.1, (va_up (va_up (va_up (va_up (va_up (va_up (va_up (va_up (va_up (va_up (va_up (va_up (va_up (va_up (va_up (va_up (va_up σ.2.2.1 11 rx.2.2.1) 12 rx.2.2.2.1) 13 rx.2.2.2.2.1) 14 rx.2.2.2.2.2.1) 15 rx.2.2.2.2.2.2.1) 16 rx.2.2.2.2.2.2.2.1) 17 rx.2.2.2.2.2.2.2.2.1) 18 rx.2.2.2.2.2.2.2.2.2.1) 19 rx.2.2.2.2.2.2.2.2.2.2.1) 20 rx.2.2.2.2.2.2.2.2.2.2.2.2.2.1) 21 rx.2.2.2.2.2.2.2.2.2.2.2.2.2.2.2.2.2.2.2.1) 22 rx.2.2.2.2.2.2.2.2.2.2.2.2.2.2.2.2.2.2.2.2.1) 23 rx.2.2.2.2.2.2.2.2.2.2.2.2.2.2.2.2.2.2.2.2.2.1) 24 rx.2.2.2.2.2.2.2.2.2.2.2.2.2.2.2.2.2.2.2.2.2.2.1) 25 rx.2.2.2.2.2.2.2.2.2.2.2.2.2.2.2.2.2.2.2.2.2.2.2.1) 26 rx.2.2.2.2.2.2.2.2.2.2.2.2.2.2.2.2.2.2.2.2.2.2.2.2.1) 27 rx.2.2.2.2.2.2.2.2.2.2.2.2.2.2.2.2.2.2.2.2.2.2.2.2.2), σ.2.2.2.1, σ.2.2.2.2) μ ++ TW cA qx qt ((upd (upd (upd (upd (upd (upd (upd (upd σ.1 8 rx.2.1) 9 rx.2.2.2.2.2.2.2.2.2.2.2.1) 10 rx.2.2.2.2.2.2.2.2.2.2.2.2.1) 11 rx.2.2.2.2.2.2.2.2.2.2.2.2.2.2.1) 12 rx.2.2.2.2.2.2.2.2.2.2.2.2.2.2.2.1) 13 rx.2.2.2.2.2.2.2.2.2.2.2.2.2.2.2.2.1) 14 rx.2.2.2.2.2.2.2.2.2.2.2.2.2.2.2.2.2.1) 15 rx.2.2.2.2.2.2.2.2.2.2.2.2.2.2.2.2.2.2.1), σ.2.1, (va_up (va_up (va_up (va_up (va_up (va_up (va_up (va_up (va_up (va_up (va_up (va_up (va_up (va_up (va_up (va_up (va_up σ.2.2.1 11 rx.2.2.1) 12 rx.2.2.2.1) 13 rx.2.2.2.2.1) 14 rx.2.2.2.2.2.1) 15 rx.2.2.2.2.2.2.1) 16 rx.2.2.2.2.2.2.2.1) 17 rx.2.2.2.2.2.2.2.2.1) 18 rx.2.2.2.2.2.2.2.2.2.1) 19 rx.2.2.2.2.2.2.2.2.2.2.1) 20 rx.2.2.2.2.2.2.2.2.2.2.2.2.2.1) 21 rx.2.2.2.2.2.2.2.2.2.2.2.2.2.2.2.2.2.2.2.1) 22 rx.2.2.2.2.2.2.2.2.2.2.2.2.2.2.2.2.2.2.2.2.1) 23 rx.2.2.2.2.2.2.2.2.2.2.2.2.2.2.2.2.2.2.2.2.2.1) 24 rx.2.2.2.2.2.2.2.2.2.2.2.2.2.2.2.2.2.2.2.2.2.2.1) 25 rx.2.2.2.2.2.2.2.2.2.2.2.2.2.2.2.2.2.2.2.2.2.2.2.1) 26 rx.2.2.2.2.2.2.2.2.2.2.2.2.2.2.2.2.2.2.2.2.2.2.2.2.1) 27 rx.2.2.2.2.2.2.2.2.2.2.2.2.2.2.2.2.2.2.2.2.2.2.2.2.2), σ.2.2.2.1, σ.2.2.2.2)) dL_law_772 (c_X8_ways (x_l X) cA (qx 0) (qx 5) (qx 15) zs (qx 1) (σ.1 0) (σ.1 1) (qx 2) (σ.2.2.1 0) (qx 3) (σ.2.2.1 1) (qx 4) (σ.2.2.1 2) (qx 7) (σ.1 4) (qx 8) (σ.2.2.1 4) (qx 9) (σ.2.2.1 5) (qx 10) (σ.1 5) (qx 11) (σ.2.2.1 6) (qx 12) (σ.2.2.1 7) (qx 13) (σ.2.2.1 8) (qx 14) (σ.2.2.1 9) (qx 17) (σ.1 8) (qx 18) (σ.2.2.1 11) (qx 19) (σ.2.2.1 12) (qx 20) (σ.2.2.1 13) (qx 21) (σ.2.2.1 14) (qx 22) (σ.2.2.1 15) (qx 23) (σ.2.2.1 16) (qx 24) (σ.2.2.1 17) (qx 25) (σ.2.2.1 18) (qx 26) (σ.2.2.1 19) (qx 27) (σ.1 9) (σ.1 10) (qx 28) (σ.2.2.1 20) (qt 0) (σ.1 11) (σ.1 12) (σ.1 13) (σ.1 14) (σ.1 15) (σ.1 16) (σ.2.1 0) (qt 1) (σ.2.2.1 21) (qt 2) (σ.2.2.1 22) (qt 3) (σ.2.2.1 23) (qt 4) (σ.2.2.1 24) (qt 5) (σ.2.2.1 25) (qt 6) (σ.2.2.1 26) (qt 7) (σ.2.2.1 27)  rx hrx) kw_779 kw_780 kw_781 kw_6 kw_782 ok_X8_ways ⟨by decide, by decide⟩ ⟨by omega, by omega⟩ ⟨rfl, rfl⟩ rfl rfl rfl rfl rfl (Nat.le_of_ble_eq_true rfl) rfl (N0 := 54) rfl [some 0, some 1, some 2, some 3, some 4, none, none, some 5, some 6, some 7, some 8, some 9, some 10, some 11, some 12, none, none, some 13, some 14, some 15, some 16, some 17, some 18, some 19, some 20, some 21, some 22, some 23, some 24, none, none, none, none, none, none, none, none, none, none, none, none, none, none, none, none, none, some 25, some 26, some 27, some 28, some 29, some 30, some 31, some 32] (by decide) rfl rfl ?_
    refine g_perm perm3.symm ?_
    exact K zs (.ref (qt 0)) SS _ kk nn hs (Or.inr ⟨qt, rfl, rfl⟩) (by omega) (by omega)

set_option maxRecDepth 100000 in
set_option maxHeartbeats 2000000 in
theorem op_25 {X : XT} {cA : Nat → ClassId} {b L : Nat} {xs : Nat → Int32} (C : Cx X cL_law RL (some .boolean) cA 2048 84000 4) (E : Sx X b L xs) (hL : L < 2 ^ 31) (qx qm : Nat → Nat) (j : Nat) (hj : 5 * j + 5 ≤ L) (zs zt : Value) (SS TT : va_W) (kk nn : Nat) (hk : kk + 50 ≤ (x_R X).cells ∧ nn + 8000 ≤ (x_R X).slots) (σ σ' : XS) (μ μ' : MS) (hs : HS cA σ zs SS) (ht : HT cA qx σ zt TT) (v w : Int64) (hx : sx_ways  σ = some (v, σ')) (hm : sm_ways  μ = some (w, μ')) (K : ∀ (zs' zt' : Value) (SS' TT' : va_W) (kk' nn' : Nat), HS cA σ' zs' SS' → HT cA qx σ' zt' TT' → kk' ≤ kk + 50 → nn' ≤ nn + 8000 → Go X 4 kk' nn' 1030 (PW cA qx qm zs' zt' σ' μ' ++ (SS' ++ TT')) [(0, .ref b), (1, .ref (qx 0)), (2, .ref (qm 0)), (3, .int (nI (5 * j)))] []) : Go X 4 kk nn 771 (PW cA qx qm zs zt σ μ ++ (SS ++ TT)) [(0, .ref b), (1, .ref (qx 0)), (2, .ref (qm 0)), (3, .int (nI (5 * j)))] [] := by
  unfold sm_ways at hm
  obtain ⟨rm, hrm, hm⟩ := cal_some hm
  obtain ⟨e3, e4⟩ := some_pair hm
  subst e3
  subst e4
  refine g_aload_n C 771 1 dL_law_771 rfl rfl ?_
  refine xc_op_25 C E hL qx qm j hj zs zt SS TT kk nn hk σ σ' μ hs ht v hx ?_
  intro zs' zt' SS' TT' kk' nn' hs2 ht2 hk1 hn1
  have hk2 : kk' ≤ (x_R X).cells ∧ nn' ≤ (x_R X).slots := ⟨by omega, by omega⟩
  refine g_pop2 C 775 dL_law_775 rfl ?_
  refine g_aload_n C 776 2 dL_law_776 rfl rfl ?_
  refine g_callB C 777 (P := PW cA qx qm zs' zt' σ' μ) [29, 30, 31, 32, 34, 35, 37, 38, 39, 40, 41, 42, 43, 44, 45] 29 (rest := []) (P' := PW cA qx qm zs' zt' σ' (μ.1, (vp_updL (vp_updL (vp_updL μ.2.1 0 rm.2.1) 1 rm.2.2.1) 2 rm.2.2.2.1), (va_up (va_up μ.2.2.1 11 rm.2.2.2.2.1) 12 rm.2.2.2.2.2.1), (va_up (va_up (va_up μ.2.2.2 0 rm.2.2.2.2.2.2.1) 1 rm.2.2.2.2.2.2.2.1) 2 rm.2.2.2.2.2.2.2.2))) dL_law_777 (c_X9_ways (x_l X) cA (qm 0) (μ.1 0) (μ.1 1) (qm 4) (μ.1 2) (qm 7) (μ.1 3) (μ.2.1 0) (μ.2.1 1) (μ.2.1 2) (qm 1) (μ.2.2.1 0) (qm 2) (μ.2.2.1 1) (qm 3) (μ.2.2.1 2) (qm 5) (μ.2.2.1 4) (qm 6) (μ.2.2.1 5) (qm 8) (μ.2.2.1 7) (qm 9) (μ.2.2.1 8) (qm 10) (μ.2.2.1 9) (qm 11) (μ.2.2.1 10) (qm 12) (μ.2.2.1 11) (qm 13) (μ.2.2.1 12) (qm 14) (μ.2.2.2 0) (qm 15) (μ.2.2.2 1) (qm 16) (μ.2.2.2 2)  rm hrm) kw_775 kw_776 kw_777 kw_343 kw_778 ok_X9_ways ⟨by decide, by decide⟩ hk2 ⟨rfl, rfl⟩ rfl rfl rfl rfl rfl (Nat.le_of_ble_eq_true rfl) rfl (N0 := 46) rfl [none, none, none, none, none, none, none, none, none, none, none, none, none, none, none, none, none, none, none, none, none, none, none, none, none, none, none, none, none, some 0, some 1, some 2, some 3, none, some 4, some 5, none, some 6, some 7, some 8, some 9, some 10, some 11, some 12, some 13, some 14] (by decide) rfl (st' := [.long rm.1]) rfl ?_
  refine g_pop2 C 780 dL_law_780 rfl ?_
  refine g_goto C 781 1030 dL_law_781 (by decide) ?_
  exact K zs' zt' SS' TT' kk' nn' hs2 ht2 hk1 hn1

set_option maxRecDepth 100000 in
set_option maxHeartbeats 2000000 in
theorem xc_op_26_0 {X : XT} {cA : Nat → ClassId} {b L : Nat} {xs : Nat → Int32} (C : Cx X cL_law RL (some .boolean) cA 2048 84000 4) (E : Sx X b L xs) (hL : L < 2 ^ 31) (qx qm : Nat → Nat) (j : Nat) (hj : 5 * j + 5 ≤ L) (zs zt : Value) (SS TT : va_W) (kk nn : Nat) (hk : kk + 50 ≤ (x_R X).cells ∧ nn + 8000 ≤ (x_R X).slots) (σ σ' : XS) (μ : MS) (hs : HS cA σ zs SS) (ht : HT cA qx σ zt TT) (v : Int64) (hx : sx_best (0 : Int32) σ = some (v, σ')) (K : ∀ (zs' zt' : Value) (SS' TT' : va_W) (kk' nn' : Nat), HS cA σ' zs' SS' → HT cA qx σ' zt' TT' → kk' ≤ kk + 50 → nn' ≤ nn + 8000 → Go X 4 kk' nn' 801 (PW cA qx qm zs' zt' σ' μ ++ (SS' ++ TT')) [(0, .ref b), (1, .ref (qx 0)), (2, .ref (qm 0)), (3, .int (nI (5 * j)))] [.long v]) : Go X 4 kk nn 798 (PW cA qx qm zs zt σ μ ++ (SS ++ TT)) [(0, .ref b), (1, .ref (qx 0)), (2, .ref (qm 0)), (3, .int (nI (5 * j)))] [.int (0 : Int32), .ref (qx 0)] := by
  unfold sx_best at hx
  obtain ⟨rx, hrx, hx⟩ := cal_some hx
  obtain ⟨e1, e2⟩ := some_pair hx
  subst e1
  subst e2
  rcases ht with ⟨rfl, rfl, hz⟩ | ⟨qt, rfl, rfl⟩
  · obtain ⟨z0, z1, z2, z3, z4, z5, z6, z7, z8, z9, z10, z11, z12, z13⟩ := id hz
    have hrz := hrx
    simp only [z0, z1, z2, z3, z4, z5, z6, z7, z8, z9, z10, z11, z12, z13] at hrz
    refine g_callNB C 798 (P := PW cA qx qm zs .null σ μ) (S := SS ++ []) [0, 1, 2, 3, 4, 7, 8, 9, 10, 11, 12, 13, 14, 17, 18, 19, 20, 21, 22, 23, 24, 25, 26, 27, 28] 0 (rest := []) (kk + 8) (nn + 7339) dL_law_798 (c_X8_bestA (x_l X) cA (qx 0) (qx 5) (qx 15) zs (qx 1) (σ.1 0) (σ.1 1) (qx 2) (σ.2.2.1 0) (qx 3) (σ.2.2.1 1) (qx 4) (σ.2.2.1 2) (qx 7) (σ.1 4) (qx 8) (σ.2.2.1 4) (qx 9) (σ.2.2.1 5) (qx 10) (σ.1 5) (qx 11) (σ.2.2.1 6) (qx 12) (σ.2.2.1 7) (qx 13) (σ.2.2.1 8) (qx 14) (σ.2.2.1 9) (qx 17) (σ.1 8) (qx 18) (σ.2.2.1 11) (qx 19) (σ.2.2.1 12) (qx 20) (σ.2.2.1 13) (qx 21) (σ.2.2.1 14) (qx 22) (σ.2.2.1 15) (qx 23) (σ.2.2.1 16) (qx 24) (σ.2.2.1 17) (qx 25) (σ.2.2.1 18) (qx 26) (σ.2.2.1 19) (qx 27) (σ.1 9) (σ.1 10) (qx 28) (σ.2.2.1 20) (0 : Int32) rx hrz) kw_787 kw_788 kw_789 kw_6 kw_790 ok_X8_best ⟨by decide, by decide⟩ ⟨by omega, by omega⟩ rfl rfl rfl rfl rfl rfl rfl (Nat.le_of_ble_eq_true rfl) (N0 := 46) rfl [some 0, some 1, some 2, some 3, some 4, none, none, some 5, some 6, some 7, some 8, some 9, some 10, some 11, some 12, none, none, some 13, some 14, some 15, some 16, some 17, some 18, some 19, some 20, some 21, some 22, some 23, some 24, none, none, none, none, none, none, none, none, none, none, none, none, none, none, none, none, none] (by decide) ?_
    intro res wz hB
    rcases hB with ⟨he, rfl, rfl⟩ | ⟨t0, t1, t2, t3, t4, t5, t6, t7, rfl, rfl⟩
    · obtain ⟨v, r2⟩ := rx
      dsimp only at he
      subst he
      refine ⟨_, [], (List.append_nil _).symm, rfl, ?_⟩
      rw [List.append_nil, List.append_nil]
      have h := K zs .null SS [] (kk + 8) (nn + 7339) hs (Or.inl ⟨rfl, rfl, rfl, rfl, rfl, rfl, rfl, z5, z6, rfl, rfl, rfl, rfl, rfl, rfl, rfl⟩) (by omega) (by omega)
      rw [List.append_nil] at h
      exact h
    · have e9 : ∀ (n0 : Int32) (n1 : Int64), n0 = 0 → n1 = 0 → ([oB t0 7 [.ref t1, .int rx.2.2.2.2.2.2.2.2.2.2.2.2.2.2.1, .int rx.2.2.2.2.2.2.2.2.2.2.2.2.2.2.2.1, .ref (qx 1), .ref (qx 10), .ref (qx 17), .ref t2, .ref t3, .ref t4, .ref t5, .ref t6, .ref t7, .int rx.2.2.2.2.2.2.2.2.2.2.2.2.2.2.2.2.1, .int rx.2.2.2.2.2.2.2.2.2.2.2.2.2.2.2.2.2.1, .int rx.2.2.2.2.2.2.2.2.2.2.2.2.2.2.2.2.2.2.1, .int 0, .long 0], aI cA t1 14 rx.2.2.2.2.2.2.2.2.2.2.2.2.2.2.2.2.2.2.2.1, aI cA t2 56 rx.2.2.2.2.2.2.2.2.2.2.2.2.2.2.2.2.2.2.2.2.1, aI cA t3 14 rx.2.2.2.2.2.2.2.2.2.2.2.2.2.2.2.2.2.2.2.2.2.1, aI cA t4 14 rx.2.2.2.2.2.2.2.2.2.2.2.2.2.2.2.2.2.2.2.2.2.2.1, aI cA t5 56 rx.2.2.2.2.2.2.2.2.2.2.2.2.2.2.2.2.2.2.2.2.2.2.2.1, aI cA t6 3584 rx.2.2.2.2.2.2.2.2.2.2.2.2.2.2.2.2.2.2.2.2.2.2.2.2.1, aI cA t7 3584 rx.2.2.2.2.2.2.2.2.2.2.2.2.2.2.2.2.2.2.2.2.2.2.2.2.2] : va_W) = [oB t0 7 [.ref t1, .int rx.2.2.2.2.2.2.2.2.2.2.2.2.2.2.1, .int rx.2.2.2.2.2.2.2.2.2.2.2.2.2.2.2.1, .ref (qx 1), .ref (qx 10), .ref (qx 17), .ref t2, .ref t3, .ref t4, .ref t5, .ref t6, .ref t7, .int rx.2.2.2.2.2.2.2.2.2.2.2.2.2.2.2.2.1, .int rx.2.2.2.2.2.2.2.2.2.2.2.2.2.2.2.2.2.1, .int rx.2.2.2.2.2.2.2.2.2.2.2.2.2.2.2.2.2.2.1, .int n0, .long n1], aI cA t1 14 rx.2.2.2.2.2.2.2.2.2.2.2.2.2.2.2.2.2.2.2.1, aI cA t2 56 rx.2.2.2.2.2.2.2.2.2.2.2.2.2.2.2.2.2.2.2.2.1, aI cA t3 14 rx.2.2.2.2.2.2.2.2.2.2.2.2.2.2.2.2.2.2.2.2.2.1, aI cA t4 14 rx.2.2.2.2.2.2.2.2.2.2.2.2.2.2.2.2.2.2.2.2.2.2.1, aI cA t5 56 rx.2.2.2.2.2.2.2.2.2.2.2.2.2.2.2.2.2.2.2.2.2.2.2.1, aI cA t6 3584 rx.2.2.2.2.2.2.2.2.2.2.2.2.2.2.2.2.2.2.2.2.2.2.2.2.1, aI cA t7 3584 rx.2.2.2.2.2.2.2.2.2.2.2.2.2.2.2.2.2.2.2.2.2.2.2.2.2] := by
        intro n0 n1 g0 g1
        subst g0; subst g1
        rfl
      refine ⟨_, _, rfl, rfl, ?_⟩
      rw [List.append_nil, List.append_assoc]
      exact K zs (.ref t0) SS _ (kk + 8) (nn + 7339) hs (Or.inr ⟨fun i => match i with | 0 => t0 | 1 => t1 | 2 => t2 | 3 => t3 | 4 => t4 | 5 => t5 | 6 => t6 | _ => t7, rfl, e9 _ _ z5 z6⟩) (by omega) (by omega)
  · refine g_perm perm3 ?_
    refine g_callB C 798 (P := PW cA qx qm zs (.ref (qt 0)) σ μ ++ TW cA qx qt σ) [0, 1, 2, 3, 4, 7, 8, 9, 10, 11, 12, 13, 14, 17, 18, 19, 20, 21, 22, 23, 24, 25, 26, 27, 28, 46, 47, 48, 49, 50, 51, 52, 53] 0 (rest := []) (P' := PW cA qx qm zs (.ref (qt 0)) ((upd (upd (upd (upd (upd (upd (upd (upd σ.1 8 rx.2.1) 9 rx.2.2.2.2.2.2.2.2.2.2.2.1) 10 rx.2.2.2.2.2.2.2.2.2.2.2.2.1) 11 rx.2.2.2.2.2.2.2.2.2.2.2.2.2.2.1) 12 rx.2.2.2.2.2.2.2.2.2.2.2.2.2.2.2.1) 13 rx.2.2.2.2.2.2.2.2.2.2.2.2.2.2.2.2.1) 14 rx.2.2.2.2.2.2.2.2.2.2.2.2.2.2.2.2.2.1) 15 rx.2.2.2.2.2.2.2.2.2.2.2.2.2.2.2.2.2.2.1), σ.2.1, (va_up (va_up (va_up (va_up (va_up (va_up (va_up (va_up (va_up (va_up (va_up (va_up (va_up (va_up (va_up (va_up (va_up σ.2.2.1 11 rx.2.2.1) 12 rx.2.2.2.1) 13 rx.2.2.2.2.1) 14 rx.2.2.2.2.2.1) 15 rx.2.2.2.2.2.2.1) 16 rx.2.2.2.2.2.2.2.1) 17 rx.2.2.2.2.2.2.2.2.1) 18 rx.2.2.2.2.2.2.2.2.2.1) 19 rx.2.2.2.2.2.2.2.2.2.2.1) 20 rx.2.2.2.2.2.2.2.2.2.2.2.2.2.1) 21 rx.2.2.2.2.2.2.2.2.2.2.2.2.2.2.2.2.2.2.2.1) 22 rx.2.2.2.2.2.2.2.2.2.2.2.2.2.2.2.2.2.2.2.2.1) 23 rx.2.2.2.2.2.2.2.2.2.2.2.2.2.2.2.2.2.2.2.2.2.1) 24 rx.2.2.2.2.2.2.2.2.2.2.2.2.2.2.2.2.2.2.2.2.2.2.1) 25 rx.2.2.2.2.2.2.2.2.2.2.2.2.2.2.2.2.2.2.2.2.2.2.2.1) 26 rx.2.2.2.2.2.2.2.2.2.2.2.2.2.2.2.2.2.2.2.2.2.2.2.2.1) 27 rx.2.2.2.2.2.2.2.2.2.2.2.2.2.2.2.2.2.2.2.2.2.2.2.2.2), σ.2.2.2.1, σ.2.2.2.2) μ ++ TW cA qx qt ((upd (upd (upd (upd (upd (upd (upd (upd σ.1 8 rx.2.1) 9 rx.2.2.2.2.2.2.2.2.2.2.2.1) 10 rx.2.2.2.2.2.2.2.2.2.2.2.2.1) 11 rx.2.2.2.2.2.2.2.2.2.2.2.2.2.2.1) 12 rx.2.2.2.2.2.2.2.2.2.2.2.2.2.2.2.1) 13 rx.2.2.2.2.2.2.2.2.2.2.2.2.2.2.2.2.1) 14 rx.2.2.2.2.2.2.2.2.2.2.2.2.2.2.2.2.2.1) 15 rx.2.2.2.2.2.2.2.2.2.2.2.2.2.2.2.2.2.2.1), σ.2.1, (va_up (va_up (va_up (va_up (va_up (va_up (va_up (va_up (va_up (va_up (va_up (va_up (va_up (va_up (va_up (va_up (va_up σ.2.2.1 11 rx.2.2.1) 12 rx.2.2.2.1) 13 rx.2.2.2.2.1) 14 rx.2.2.2.2.2.1) 15 rx.2.2.2.2.2.2.1) 16 rx.2.2.2.2.2.2.2.1) 17 rx.2.2.2.2.2.2.2.2.1) 18 rx.2.2.2.2.2.2.2.2.2.1) 19 rx.2.2.2.2.2.2.2.2.2.2.1) 20 rx.2.2.2.2.2.2.2.2.2.2.2.2.2.1) 21 rx.2.2.2.2.2.2.2.2.2.2.2.2.2.2.2.2.2.2.2.1) 22 rx.2.2.2.2.2.2.2.2.2.2.2.2.2.2.2.2.2.2.2.2.1) 23 rx.2.2.2.2.2.2.2.2.2.2.2.2.2.2.2.2.2.2.2.2.2.1) 24 rx.2.2.2.2.2.2.2.2.2.2.2.2.2.2.2.2.2.2.2.2.2.2.1) 25 rx.2.2.2.2.2.2.2.2.2.2.2.2.2.2.2.2.2.2.2.2.2.2.2.1) 26 rx.2.2.2.2.2.2.2.2.2.2.2.2.2.2.2.2.2.2.2.2.2.2.2.2.1) 27 rx.2.2.2.2.2.2.2.2.2.2.2.2.2.2.2.2.2.2.2.2.2.2.2.2.2), σ.2.2.2.1, σ.2.2.2.2)) dL_law_798 (c_X8_best (x_l X) cA (qx 0) (qx 5) (qx 15) zs (qx 1) (σ.1 0) (σ.1 1) (qx 2) (σ.2.2.1 0) (qx 3) (σ.2.2.1 1) (qx 4) (σ.2.2.1 2) (qx 7) (σ.1 4) (qx 8) (σ.2.2.1 4) (qx 9) (σ.2.2.1 5) (qx 10) (σ.1 5) (qx 11) (σ.2.2.1 6) (qx 12) (σ.2.2.1 7) (qx 13) (σ.2.2.1 8) (qx 14) (σ.2.2.1 9) (qx 17) (σ.1 8) (qx 18) (σ.2.2.1 11) (qx 19) (σ.2.2.1 12) (qx 20) (σ.2.2.1 13) (qx 21) (σ.2.2.1 14) (qx 22) (σ.2.2.1 15) (qx 23) (σ.2.2.1 16) (qx 24) (σ.2.2.1 17) (qx 25) (σ.2.2.1 18) (qx 26) (σ.2.2.1 19) (qx 27) (σ.1 9) (σ.1 10) (qx 28) (σ.2.2.1 20) (qt 0) (σ.1 11) (σ.1 12) (σ.1 13) (σ.1 14) (σ.1 15) (σ.1 16) (σ.2.1 0) (qt 1) (σ.2.2.1 21) (qt 2) (σ.2.2.1 22) (qt 3) (σ.2.2.1 23) (qt 4) (σ.2.2.1 24) (qt 5) (σ.2.2.1 25) (qt 6) (σ.2.2.1 26) (qt 7) (σ.2.2.1 27) (0 : Int32) rx hrx) kw_787 kw_788 kw_789 kw_6 kw_790 ok_X8_best ⟨by decide, by decide⟩ ⟨by omega, by omega⟩ ⟨rfl, rfl⟩ rfl rfl rfl rfl rfl (Nat.le_of_ble_eq_true rfl) rfl (N0 := 54) rfl [some 0, some 1, some 2, some 3, some 4, none, none, some 5, some 6, some 7, some 8, some 9, some 10, some 11, some 12, none, none, some 13, some 14, some 15, some 16, some 17, some 18, some 19, some 20, some 21, some 22, some 23, some 24, none, none, none, none, none, none, none, none, none, none, none, none, none, none, none, none, none, some 25, some 26, some 27, some 28, some 29, some 30, some 31, some 32] (by decide) rfl rfl ?_
    refine g_perm perm3.symm ?_
    exact K zs (.ref (qt 0)) SS _ kk nn hs (Or.inr ⟨qt, rfl, rfl⟩) (by omega) (by omega)

set_option maxRecDepth 100000 in
set_option maxHeartbeats 2000000 in
theorem op_26_0 {X : XT} {cA : Nat → ClassId} {b L : Nat} {xs : Nat → Int32} (C : Cx X cL_law RL (some .boolean) cA 2048 84000 4) (E : Sx X b L xs) (hL : L < 2 ^ 31) (qx qm : Nat → Nat) (j : Nat) (hj : 5 * j + 5 ≤ L) (zs zt : Value) (SS TT : va_W) (kk nn : Nat) (hk : kk + 50 ≤ (x_R X).cells ∧ nn + 8000 ≤ (x_R X).slots) (σ σ' : XS) (μ μ' : MS) (hs : HS cA σ zs SS) (ht : HT cA qx σ zt TT) (hb : xs (5 * j + 1) = 0) (v w : Int64) (hx : sx_best (0 : Int32) σ = some (v, σ')) (hm : sm_best (0 : Int32) μ = some (w, μ')) (K : ∀ (zs' zt' : Value) (SS' TT' : va_W) (kk' nn' : Nat), HS cA σ' zs' SS' → HT cA qx σ' zt' TT' → kk' ≤ kk + 50 → nn' ≤ nn + 8000 → Go X 4 kk' nn' 1030 (PW cA qx qm zs' zt' σ' μ' ++ (SS' ++ TT')) [(0, .ref b), (1, .ref (qx 0)), (2, .ref (qm 0)), (3, .int (nI (5 * j)))] []) : Go X 4 kk nn 784 (PW cA qx qm zs zt σ μ ++ (SS ++ TT)) [(0, .ref b), (1, .ref (qx 0)), (2, .ref (qm 0)), (3, .int (nI (5 * j)))] [] := by
  unfold sm_best at hm
  obtain ⟨rm, hrm, hm⟩ := cal_some hm
  obtain ⟨e3, e4⟩ := some_pair hm
  subst e3
  subst e4
  refine g_aload_n C 784 1 dL_law_784 rfl rfl ?_
  refine g_aload_n C 785 0 dL_law_785 rfl rfl ?_
  refine g_iload_n C 786 3 dL_law_786 rfl rfl ?_
  refine g_iconst C 787 (1 : Int32) dL_law_787 (by decide) ?_
  refine g_iadd C 788 dL_law_788 ?_
  refine g_sld C 789 E (5 * j + 1) dL_law_789 (nI_add (5 * j) 1) (by omega) hL ?_
  refine g_if_eq C 790 797 dL_law_790 (by decide) (if_pos hb : (if (xs (5 * j + 1)) = 0 then some () else none) = some ()) (fun _ => ?_) (fun h => by cases h)
  refine g_iconst C 797 (0 : Int32) dL_law_797 (by decide) ?_
  refine xc_op_26_0 C E hL qx qm j hj zs zt SS TT kk nn hk σ σ' μ hs ht v hx ?_
  intro zs' zt' SS' TT' kk' nn' hs2 ht2 hk1 hn1
  have hk2 : kk' ≤ (x_R X).cells ∧ nn' ≤ (x_R X).slots := ⟨by omega, by omega⟩
  refine g_pop2 C 801 dL_law_801 rfl ?_
  refine g_aload_n C 802 2 dL_law_802 rfl rfl ?_
  refine g_aload_n C 803 0 dL_law_803 rfl rfl ?_
  refine g_iload_n C 804 3 dL_law_804 rfl rfl ?_
  refine g_iconst C 805 (1 : Int32) dL_law_805 (by decide) ?_
  refine g_iadd C 806 dL_law_806 ?_
  refine g_sld C 807 E (5 * j + 1) dL_law_807 (nI_add (5 * j) 1) (by omega) hL ?_
  refine g_if_eq C 808 815 dL_law_808 (by decide) (if_pos hb : (if (xs (5 * j + 1)) = 0 then some () else none) = some ()) (fun _ => ?_) (fun h => by cases h)
  refine g_iconst C 815 (0 : Int32) dL_law_815 (by decide) ?_
  refine g_callB C 816 (P := PW cA qx qm zs' zt' σ' μ) [29, 30, 31, 32, 34, 35, 37, 38, 39, 40, 41, 42, 43, 44, 45] 29 (rest := []) (P' := PW cA qx qm zs' zt' σ' (μ.1, (vp_updL (vp_updL (vp_updL μ.2.1 0 rm.2.1) 1 rm.2.2.1) 2 rm.2.2.2.1), (va_up (va_up μ.2.2.1 11 rm.2.2.2.2.1) 12 rm.2.2.2.2.2.1), (va_up (va_up (va_up μ.2.2.2 0 rm.2.2.2.2.2.2.1) 1 rm.2.2.2.2.2.2.2.1) 2 rm.2.2.2.2.2.2.2.2))) dL_law_816 (c_X9_best (x_l X) cA (qm 0) (μ.1 0) (μ.1 1) (qm 4) (μ.1 2) (qm 7) (μ.1 3) (μ.2.1 0) (μ.2.1 1) (μ.2.1 2) (qm 1) (μ.2.2.1 0) (qm 2) (μ.2.2.1 1) (qm 3) (μ.2.2.1 2) (qm 5) (μ.2.2.1 4) (qm 6) (μ.2.2.1 5) (qm 8) (μ.2.2.1 7) (qm 9) (μ.2.2.1 8) (qm 10) (μ.2.2.1 9) (qm 11) (μ.2.2.1 10) (qm 12) (μ.2.2.1 11) (qm 13) (μ.2.2.1 12) (qm 14) (μ.2.2.2 0) (qm 15) (μ.2.2.2 1) (qm 16) (μ.2.2.2 2) (0 : Int32) rm hrm) kw_783 kw_784 kw_785 kw_343 kw_786 ok_X9_best ⟨by decide, by decide⟩ hk2 ⟨rfl, rfl⟩ rfl rfl rfl rfl rfl (Nat.le_of_ble_eq_true rfl) rfl (N0 := 46) rfl [none, none, none, none, none, none, none, none, none, none, none, none, none, none, none, none, none, none, none, none, none, none, none, none, none, none, none, none, none, some 0, some 1, some 2, some 3, none, some 4, some 5, none, some 6, some 7, some 8, some 9, some 10, some 11, some 12, some 13, some 14] (by decide) rfl (st' := [.long rm.1]) rfl ?_
  refine g_pop2 C 819 dL_law_819 rfl ?_
  refine g_goto C 820 1030 dL_law_820 (by decide) ?_
  exact K zs' zt' SS' TT' kk' nn' hs2 ht2 hk1 hn1

set_option maxRecDepth 100000 in
set_option maxHeartbeats 2000000 in
theorem xc_op_26_1 {X : XT} {cA : Nat → ClassId} {b L : Nat} {xs : Nat → Int32} (C : Cx X cL_law RL (some .boolean) cA 2048 84000 4) (E : Sx X b L xs) (hL : L < 2 ^ 31) (qx qm : Nat → Nat) (j : Nat) (hj : 5 * j + 5 ≤ L) (zs zt : Value) (SS TT : va_W) (kk nn : Nat) (hk : kk + 50 ≤ (x_R X).cells ∧ nn + 8000 ≤ (x_R X).slots) (σ σ' : XS) (μ : MS) (hs : HS cA σ zs SS) (ht : HT cA qx σ zt TT) (v : Int64) (hx : sx_best (1 : Int32) σ = some (v, σ')) (K : ∀ (zs' zt' : Value) (SS' TT' : va_W) (kk' nn' : Nat), HS cA σ' zs' SS' → HT cA qx σ' zt' TT' → kk' ≤ kk + 50 → nn' ≤ nn + 8000 → Go X 4 kk' nn' 801 (PW cA qx qm zs' zt' σ' μ ++ (SS' ++ TT')) [(0, .ref b), (1, .ref (qx 0)), (2, .ref (qm 0)), (3, .int (nI (5 * j)))] [.long v]) : Go X 4 kk nn 798 (PW cA qx qm zs zt σ μ ++ (SS ++ TT)) [(0, .ref b), (1, .ref (qx 0)), (2, .ref (qm 0)), (3, .int (nI (5 * j)))] [.int (1 : Int32), .ref (qx 0)] := by
  unfold sx_best at hx
  obtain ⟨rx, hrx, hx⟩ := cal_some hx
  obtain ⟨e1, e2⟩ := some_pair hx
  subst e1
  subst e2
  rcases ht with ⟨rfl, rfl, hz⟩ | ⟨qt, rfl, rfl⟩
  · obtain ⟨z0, z1, z2, z3, z4, z5, z6, z7, z8, z9, z10, z11, z12, z13⟩ := id hz
    have hrz := hrx
    simp only [z0, z1, z2, z3, z4, z5, z6, z7, z8, z9, z10, z11, z12, z13] at hrz
    refine g_callNB C 798 (P := PW cA qx qm zs .null σ μ) (S := SS ++ []) [0, 1, 2, 3, 4, 7, 8, 9, 10, 11, 12, 13, 14, 17, 18, 19, 20, 21, 22, 23, 24, 25, 26, 27, 28] 0 (rest := []) (kk + 8) (nn + 7339) dL_law_798 (c_X8_bestA (x_l X) cA (qx 0) (qx 5) (qx 15) zs (qx 1) (σ.1 0) (σ.1 1) (qx 2) (σ.2.2.1 0) (qx 3) (σ.2.2.1 1) (qx 4) (σ.2.2.1 2) (qx 7) (σ.1 4) (qx 8) (σ.2.2.1 4) (qx 9) (σ.2.2.1 5) (qx 10) (σ.1 5) (qx 11) (σ.2.2.1 6) (qx 12) (σ.2.2.1 7) (qx 13) (σ.2.2.1 8) (qx 14) (σ.2.2.1 9) (qx 17) (σ.1 8) (qx 18) (σ.2.2.1 11) (qx 19) (σ.2.2.1 12) (qx 20) (σ.2.2.1 13) (qx 21) (σ.2.2.1 14) (qx 22) (σ.2.2.1 15) (qx 23) (σ.2.2.1 16) (qx 24) (σ.2.2.1 17) (qx 25) (σ.2.2.1 18) (qx 26) (σ.2.2.1 19) (qx 27) (σ.1 9) (σ.1 10) (qx 28) (σ.2.2.1 20) (1 : Int32) rx hrz) kw_787 kw_788 kw_789 kw_6 kw_790 ok_X8_best ⟨by decide, by decide⟩ ⟨by omega, by omega⟩ rfl rfl rfl rfl rfl rfl rfl (Nat.le_of_ble_eq_true rfl) (N0 := 46) rfl [some 0, some 1, some 2, some 3, some 4, none, none, some 5, some 6, some 7, some 8, some 9, some 10, some 11, some 12, none, none, some 13, some 14, some 15, some 16, some 17, some 18, some 19, some 20, some 21, some 22, some 23, some 24, none, none, none, none, none, none, none, none, none, none, none, none, none, none, none, none, none] (by decide) ?_
    intro res wz hB
    rcases hB with ⟨he, rfl, rfl⟩ | ⟨t0, t1, t2, t3, t4, t5, t6, t7, rfl, rfl⟩
    · obtain ⟨v, r2⟩ := rx
      dsimp only at he
      subst he
      refine ⟨_, [], (List.append_nil _).symm, rfl, ?_⟩
      rw [List.append_nil, List.append_nil]
      have h := K zs .null SS [] (kk + 8) (nn + 7339) hs (Or.inl ⟨rfl, rfl, rfl, rfl, rfl, rfl, rfl, z5, z6, rfl, rfl, rfl, rfl, rfl, rfl, rfl⟩) (by omega) (by omega)
      rw [List.append_nil] at h
      exact h
    · have e9 : ∀ (n0 : Int32) (n1 : Int64), n0 = 0 → n1 = 0 → ([oB t0 7 [.ref t1, .int rx.2.2.2.2.2.2.2.2.2.2.2.2.2.2.1, .int rx.2.2.2.2.2.2.2.2.2.2.2.2.2.2.2.1, .ref (qx 1), .ref (qx 10), .ref (qx 17), .ref t2, .ref t3, .ref t4, .ref t5, .ref t6, .ref t7, .int rx.2.2.2.2.2.2.2.2.2.2.2.2.2.2.2.2.1, .int rx.2.2.2.2.2.2.2.2.2.2.2.2.2.2.2.2.2.1, .int rx.2.2.2.2.2.2.2.2.2.2.2.2.2.2.2.2.2.2.1, .int 0, .long 0], aI cA t1 14 rx.2.2.2.2.2.2.2.2.2.2.2.2.2.2.2.2.2.2.2.1, aI cA t2 56 rx.2.2.2.2.2.2.2.2.2.2.2.2.2.2.2.2.2.2.2.2.1, aI cA t3 14 rx.2.2.2.2.2.2.2.2.2.2.2.2.2.2.2.2.2.2.2.2.2.1, aI cA t4 14 rx.2.2.2.2.2.2.2.2.2.2.2.2.2.2.2.2.2.2.2.2.2.2.1, aI cA t5 56 rx.2.2.2.2.2.2.2.2.2.2.2.2.2.2.2.2.2.2.2.2.2.2.2.1, aI cA t6 3584 rx.2.2.2.2.2.2.2.2.2.2.2.2.2.2.2.2.2.2.2.2.2.2.2.2.1, aI cA t7 3584 rx.2.2.2.2.2.2.2.2.2.2.2.2.2.2.2.2.2.2.2.2.2.2.2.2.2] : va_W) = [oB t0 7 [.ref t1, .int rx.2.2.2.2.2.2.2.2.2.2.2.2.2.2.1, .int rx.2.2.2.2.2.2.2.2.2.2.2.2.2.2.2.1, .ref (qx 1), .ref (qx 10), .ref (qx 17), .ref t2, .ref t3, .ref t4, .ref t5, .ref t6, .ref t7, .int rx.2.2.2.2.2.2.2.2.2.2.2.2.2.2.2.2.1, .int rx.2.2.2.2.2.2.2.2.2.2.2.2.2.2.2.2.2.1, .int rx.2.2.2.2.2.2.2.2.2.2.2.2.2.2.2.2.2.2.1, .int n0, .long n1], aI cA t1 14 rx.2.2.2.2.2.2.2.2.2.2.2.2.2.2.2.2.2.2.2.1, aI cA t2 56 rx.2.2.2.2.2.2.2.2.2.2.2.2.2.2.2.2.2.2.2.2.1, aI cA t3 14 rx.2.2.2.2.2.2.2.2.2.2.2.2.2.2.2.2.2.2.2.2.2.1, aI cA t4 14 rx.2.2.2.2.2.2.2.2.2.2.2.2.2.2.2.2.2.2.2.2.2.2.1, aI cA t5 56 rx.2.2.2.2.2.2.2.2.2.2.2.2.2.2.2.2.2.2.2.2.2.2.2.1, aI cA t6 3584 rx.2.2.2.2.2.2.2.2.2.2.2.2.2.2.2.2.2.2.2.2.2.2.2.2.1, aI cA t7 3584 rx.2.2.2.2.2.2.2.2.2.2.2.2.2.2.2.2.2.2.2.2.2.2.2.2.2] := by
        intro n0 n1 g0 g1
        subst g0; subst g1
        rfl
      refine ⟨_, _, rfl, rfl, ?_⟩
      rw [List.append_nil, List.append_assoc]
      exact K zs (.ref t0) SS _ (kk + 8) (nn + 7339) hs (Or.inr ⟨fun i => match i with | 0 => t0 | 1 => t1 | 2 => t2 | 3 => t3 | 4 => t4 | 5 => t5 | 6 => t6 | _ => t7, rfl, e9 _ _ z5 z6⟩) (by omega) (by omega)
  · refine g_perm perm3 ?_
    refine g_callB C 798 (P := PW cA qx qm zs (.ref (qt 0)) σ μ ++ TW cA qx qt σ) [0, 1, 2, 3, 4, 7, 8, 9, 10, 11, 12, 13, 14, 17, 18, 19, 20, 21, 22, 23, 24, 25, 26, 27, 28, 46, 47, 48, 49, 50, 51, 52, 53] 0 (rest := []) (P' := PW cA qx qm zs (.ref (qt 0)) ((upd (upd (upd (upd (upd (upd (upd (upd σ.1 8 rx.2.1) 9 rx.2.2.2.2.2.2.2.2.2.2.2.1) 10 rx.2.2.2.2.2.2.2.2.2.2.2.2.1) 11 rx.2.2.2.2.2.2.2.2.2.2.2.2.2.2.1) 12 rx.2.2.2.2.2.2.2.2.2.2.2.2.2.2.2.1) 13 rx.2.2.2.2.2.2.2.2.2.2.2.2.2.2.2.2.1) 14 rx.2.2.2.2.2.2.2.2.2.2.2.2.2.2.2.2.2.1) 15 rx.2.2.2.2.2.2.2.2.2.2.2.2.2.2.2.2.2.2.1), σ.2.1, (va_up (va_up (va_up (va_up (va_up (va_up (va_up (va_up (va_up (va_up (va_up (va_up (va_up (va_up (va_up (va_up (va_up σ.2.2.1 11 rx.2.2.1) 12 rx.2.2.2.1) 13 rx.2.2.2.2.1) 14 rx.2.2.2.2.2.1) 15 rx.2.2.2.2.2.2.1) 16 rx.2.2.2.2.2.2.2.1) 17 rx.2.2.2.2.2.2.2.2.1) 18 rx.2.2.2.2.2.2.2.2.2.1) 19 rx.2.2.2.2.2.2.2.2.2.2.1) 20 rx.2.2.2.2.2.2.2.2.2.2.2.2.2.1) 21 rx.2.2.2.2.2.2.2.2.2.2.2.2.2.2.2.2.2.2.2.1) 22 rx.2.2.2.2.2.2.2.2.2.2.2.2.2.2.2.2.2.2.2.2.1) 23 rx.2.2.2.2.2.2.2.2.2.2.2.2.2.2.2.2.2.2.2.2.2.1) 24 rx.2.2.2.2.2.2.2.2.2.2.2.2.2.2.2.2.2.2.2.2.2.2.1) 25 rx.2.2.2.2.2.2.2.2.2.2.2.2.2.2.2.2.2.2.2.2.2.2.2.1) 26 rx.2.2.2.2.2.2.2.2.2.2.2.2.2.2.2.2.2.2.2.2.2.2.2.2.1) 27 rx.2.2.2.2.2.2.2.2.2.2.2.2.2.2.2.2.2.2.2.2.2.2.2.2.2), σ.2.2.2.1, σ.2.2.2.2) μ ++ TW cA qx qt ((upd (upd (upd (upd (upd (upd (upd (upd σ.1 8 rx.2.1) 9 rx.2.2.2.2.2.2.2.2.2.2.2.1) 10 rx.2.2.2.2.2.2.2.2.2.2.2.2.1) 11 rx.2.2.2.2.2.2.2.2.2.2.2.2.2.2.1) 12 rx.2.2.2.2.2.2.2.2.2.2.2.2.2.2.2.1) 13 rx.2.2.2.2.2.2.2.2.2.2.2.2.2.2.2.2.1) 14 rx.2.2.2.2.2.2.2.2.2.2.2.2.2.2.2.2.2.1) 15 rx.2.2.2.2.2.2.2.2.2.2.2.2.2.2.2.2.2.2.1), σ.2.1, (va_up (va_up (va_up (va_up (va_up (va_up (va_up (va_up (va_up (va_up (va_up (va_up (va_up (va_up (va_up (va_up (va_up σ.2.2.1 11 rx.2.2.1) 12 rx.2.2.2.1) 13 rx.2.2.2.2.1) 14 rx.2.2.2.2.2.1) 15 rx.2.2.2.2.2.2.1) 16 rx.2.2.2.2.2.2.2.1) 17 rx.2.2.2.2.2.2.2.2.1) 18 rx.2.2.2.2.2.2.2.2.2.1) 19 rx.2.2.2.2.2.2.2.2.2.2.1) 20 rx.2.2.2.2.2.2.2.2.2.2.2.2.2.1) 21 rx.2.2.2.2.2.2.2.2.2.2.2.2.2.2.2.2.2.2.2.1) 22 rx.2.2.2.2.2.2.2.2.2.2.2.2.2.2.2.2.2.2.2.2.1) 23 rx.2.2.2.2.2.2.2.2.2.2.2.2.2.2.2.2.2.2.2.2.2.1) 24 rx.2.2.2.2.2.2.2.2.2.2.2.2.2.2.2.2.2.2.2.2.2.2.1) 25 rx.2.2.2.2.2.2.2.2.2.2.2.2.2.2.2.2.2.2.2.2.2.2.2.1) 26 rx.2.2.2.2.2.2.2.2.2.2.2.2.2.2.2.2.2.2.2.2.2.2.2.2.1) 27 rx.2.2.2.2.2.2.2.2.2.2.2.2.2.2.2.2.2.2.2.2.2.2.2.2.2), σ.2.2.2.1, σ.2.2.2.2)) dL_law_798 (c_X8_best (x_l X) cA (qx 0) (qx 5) (qx 15) zs (qx 1) (σ.1 0) (σ.1 1) (qx 2) (σ.2.2.1 0) (qx 3) (σ.2.2.1 1) (qx 4) (σ.2.2.1 2) (qx 7) (σ.1 4) (qx 8) (σ.2.2.1 4) (qx 9) (σ.2.2.1 5) (qx 10) (σ.1 5) (qx 11) (σ.2.2.1 6) (qx 12) (σ.2.2.1 7) (qx 13) (σ.2.2.1 8) (qx 14) (σ.2.2.1 9) (qx 17) (σ.1 8) (qx 18) (σ.2.2.1 11) (qx 19) (σ.2.2.1 12) (qx 20) (σ.2.2.1 13) (qx 21) (σ.2.2.1 14) (qx 22) (σ.2.2.1 15) (qx 23) (σ.2.2.1 16) (qx 24) (σ.2.2.1 17) (qx 25) (σ.2.2.1 18) (qx 26) (σ.2.2.1 19) (qx 27) (σ.1 9) (σ.1 10) (qx 28) (σ.2.2.1 20) (qt 0) (σ.1 11) (σ.1 12) (σ.1 13) (σ.1 14) (σ.1 15) (σ.1 16) (σ.2.1 0) (qt 1) (σ.2.2.1 21) (qt 2) (σ.2.2.1 22) (qt 3) (σ.2.2.1 23) (qt 4) (σ.2.2.1 24) (qt 5) (σ.2.2.1 25) (qt 6) (σ.2.2.1 26) (qt 7) (σ.2.2.1 27) (1 : Int32) rx hrx) kw_787 kw_788 kw_789 kw_6 kw_790 ok_X8_best ⟨by decide, by decide⟩ ⟨by omega, by omega⟩ ⟨rfl, rfl⟩ rfl rfl rfl rfl rfl (Nat.le_of_ble_eq_true rfl) rfl (N0 := 54) rfl [some 0, some 1, some 2, some 3, some 4, none, none, some 5, some 6, some 7, some 8, some 9, some 10, some 11, some 12, none, none, some 13, some 14, some 15, some 16, some 17, some 18, some 19, some 20, some 21, some 22, some 23, some 24, none, none, none, none, none, none, none, none, none, none, none, none, none, none, none, none, none, some 25, some 26, some 27, some 28, some 29, some 30, some 31, some 32] (by decide) rfl rfl ?_
    refine g_perm perm3.symm ?_
    exact K zs (.ref (qt 0)) SS _ kk nn hs (Or.inr ⟨qt, rfl, rfl⟩) (by omega) (by omega)

set_option maxRecDepth 100000 in
set_option maxHeartbeats 2000000 in
theorem op_26_1 {X : XT} {cA : Nat → ClassId} {b L : Nat} {xs : Nat → Int32} (C : Cx X cL_law RL (some .boolean) cA 2048 84000 4) (E : Sx X b L xs) (hL : L < 2 ^ 31) (qx qm : Nat → Nat) (j : Nat) (hj : 5 * j + 5 ≤ L) (zs zt : Value) (SS TT : va_W) (kk nn : Nat) (hk : kk + 50 ≤ (x_R X).cells ∧ nn + 8000 ≤ (x_R X).slots) (σ σ' : XS) (μ μ' : MS) (hs : HS cA σ zs SS) (ht : HT cA qx σ zt TT) (hb : ¬ xs (5 * j + 1) = 0) (v w : Int64) (hx : sx_best (1 : Int32) σ = some (v, σ')) (hm : sm_best (1 : Int32) μ = some (w, μ')) (K : ∀ (zs' zt' : Value) (SS' TT' : va_W) (kk' nn' : Nat), HS cA σ' zs' SS' → HT cA qx σ' zt' TT' → kk' ≤ kk + 50 → nn' ≤ nn + 8000 → Go X 4 kk' nn' 1030 (PW cA qx qm zs' zt' σ' μ' ++ (SS' ++ TT')) [(0, .ref b), (1, .ref (qx 0)), (2, .ref (qm 0)), (3, .int (nI (5 * j)))] []) : Go X 4 kk nn 784 (PW cA qx qm zs zt σ μ ++ (SS ++ TT)) [(0, .ref b), (1, .ref (qx 0)), (2, .ref (qm 0)), (3, .int (nI (5 * j)))] [] := by
  unfold sm_best at hm
  obtain ⟨rm, hrm, hm⟩ := cal_some hm
  obtain ⟨e3, e4⟩ := some_pair hm
  subst e3
  subst e4
  refine g_aload_n C 784 1 dL_law_784 rfl rfl ?_
  refine g_aload_n C 785 0 dL_law_785 rfl rfl ?_
  refine g_iload_n C 786 3 dL_law_786 rfl rfl ?_
  refine g_iconst C 787 (1 : Int32) dL_law_787 (by decide) ?_
  refine g_iadd C 788 dL_law_788 ?_
  refine g_sld C 789 E (5 * j + 1) dL_law_789 (nI_add (5 * j) 1) (by omega) hL ?_
  refine g_if_eq C 790 797 dL_law_790 (by decide) (if_neg hb : (if (xs (5 * j + 1)) = 0 then none else some ()) = some ()) (fun h => by cases h) (fun _ => ?_)
  refine g_iconst C 793 (1 : Int32) dL_law_793 (by decide) ?_
  refine g_goto C 794 798 dL_law_794 (by decide) ?_
  refine xc_op_26_1 C E hL qx qm j hj zs zt SS TT kk nn hk σ σ' μ hs ht v hx ?_
  intro zs' zt' SS' TT' kk' nn' hs2 ht2 hk1 hn1
  have hk2 : kk' ≤ (x_R X).cells ∧ nn' ≤ (x_R X).slots := ⟨by omega, by omega⟩
  refine g_pop2 C 801 dL_law_801 rfl ?_
  refine g_aload_n C 802 2 dL_law_802 rfl rfl ?_
  refine g_aload_n C 803 0 dL_law_803 rfl rfl ?_
  refine g_iload_n C 804 3 dL_law_804 rfl rfl ?_
  refine g_iconst C 805 (1 : Int32) dL_law_805 (by decide) ?_
  refine g_iadd C 806 dL_law_806 ?_
  refine g_sld C 807 E (5 * j + 1) dL_law_807 (nI_add (5 * j) 1) (by omega) hL ?_
  refine g_if_eq C 808 815 dL_law_808 (by decide) (if_neg hb : (if (xs (5 * j + 1)) = 0 then none else some ()) = some ()) (fun h => by cases h) (fun _ => ?_)
  refine g_iconst C 811 (1 : Int32) dL_law_811 (by decide) ?_
  refine g_goto C 812 816 dL_law_812 (by decide) ?_
  refine g_callB C 816 (P := PW cA qx qm zs' zt' σ' μ) [29, 30, 31, 32, 34, 35, 37, 38, 39, 40, 41, 42, 43, 44, 45] 29 (rest := []) (P' := PW cA qx qm zs' zt' σ' (μ.1, (vp_updL (vp_updL (vp_updL μ.2.1 0 rm.2.1) 1 rm.2.2.1) 2 rm.2.2.2.1), (va_up (va_up μ.2.2.1 11 rm.2.2.2.2.1) 12 rm.2.2.2.2.2.1), (va_up (va_up (va_up μ.2.2.2 0 rm.2.2.2.2.2.2.1) 1 rm.2.2.2.2.2.2.2.1) 2 rm.2.2.2.2.2.2.2.2))) dL_law_816 (c_X9_best (x_l X) cA (qm 0) (μ.1 0) (μ.1 1) (qm 4) (μ.1 2) (qm 7) (μ.1 3) (μ.2.1 0) (μ.2.1 1) (μ.2.1 2) (qm 1) (μ.2.2.1 0) (qm 2) (μ.2.2.1 1) (qm 3) (μ.2.2.1 2) (qm 5) (μ.2.2.1 4) (qm 6) (μ.2.2.1 5) (qm 8) (μ.2.2.1 7) (qm 9) (μ.2.2.1 8) (qm 10) (μ.2.2.1 9) (qm 11) (μ.2.2.1 10) (qm 12) (μ.2.2.1 11) (qm 13) (μ.2.2.1 12) (qm 14) (μ.2.2.2 0) (qm 15) (μ.2.2.2 1) (qm 16) (μ.2.2.2 2) (1 : Int32) rm hrm) kw_783 kw_784 kw_785 kw_343 kw_786 ok_X9_best ⟨by decide, by decide⟩ hk2 ⟨rfl, rfl⟩ rfl rfl rfl rfl rfl (Nat.le_of_ble_eq_true rfl) rfl (N0 := 46) rfl [none, none, none, none, none, none, none, none, none, none, none, none, none, none, none, none, none, none, none, none, none, none, none, none, none, none, none, none, none, some 0, some 1, some 2, some 3, none, some 4, some 5, none, some 6, some 7, some 8, some 9, some 10, some 11, some 12, some 13, some 14] (by decide) rfl (st' := [.long rm.1]) rfl ?_
  refine g_pop2 C 819 dL_law_819 rfl ?_
  refine g_goto C 820 1030 dL_law_820 (by decide) ?_
  exact K zs' zt' SS' TT' kk' nn' hs2 ht2 hk1 hn1

set_option maxRecDepth 100000 in
set_option maxHeartbeats 2000000 in
theorem xc_op_27_0 {X : XT} {cA : Nat → ClassId} {b L : Nat} {xs : Nat → Int32} (C : Cx X cL_law RL (some .boolean) cA 2048 84000 4) (E : Sx X b L xs) (hL : L < 2 ^ 31) (qx qm : Nat → Nat) (j : Nat) (hj : 5 * j + 5 ≤ L) (zs zt : Value) (SS TT : va_W) (kk nn : Nat) (hk : kk + 50 ≤ (x_R X).cells ∧ nn + 8000 ≤ (x_R X).slots) (σ σ' : XS) (μ : MS) (hs : HS cA σ zs SS) (ht : HT cA qx σ zt TT) (v : Int64) (hx : sx_bests (0 : Int32) σ = some (v, σ')) (K : ∀ (zs' zt' : Value) (SS' TT' : va_W) (kk' nn' : Nat), HS cA σ' zs' SS' → HT cA qx σ' zt' TT' → kk' ≤ kk + 50 → nn' ≤ nn + 8000 → Go X 4 kk' nn' 840 (PW cA qx qm zs' zt' σ' μ ++ (SS' ++ TT')) [(0, .ref b), (1, .ref (qx 0)), (2, .ref (qm 0)), (3, .int (nI (5 * j)))] [.long v]) : Go X 4 kk nn 837 (PW cA qx qm zs zt σ μ ++ (SS ++ TT)) [(0, .ref b), (1, .ref (qx 0)), (2, .ref (qm 0)), (3, .int (nI (5 * j)))] [.int (0 : Int32), .ref (qx 0)] := by
  unfold sx_bests at hx
  obtain ⟨rx, hrx, hx⟩ := cal_some hx
  obtain ⟨e1, e2⟩ := some_pair hx
  subst e1
  subst e2
  rcases ht with ⟨rfl, rfl, hz⟩ | ⟨qt, rfl, rfl⟩
  · obtain ⟨z0, z1, z2, z3, z4, z5, z6, z7, z8, z9, z10, z11, z12, z13⟩ := id hz
    have hrz := hrx
    simp only [z0, z1, z2, z3, z4, z5, z6, z7, z8, z9, z10, z11, z12, z13] at hrz
    refine g_callNB C 837 (P := PW cA qx qm zs .null σ μ) (S := SS ++ []) [0, 1, 2, 3, 4, 7, 8, 9, 10, 11, 12, 13, 14, 17, 18, 19, 20, 21, 22, 23, 24, 25, 26, 27, 28] 0 (rest := []) (kk + 8) (nn + 7339) dL_law_837 (c_X8_bestsA (x_l X) cA (qx 0) (qx 5) (qx 15) zs (qx 1) (σ.1 0) (σ.1 1) (qx 2) (σ.2.2.1 0) (qx 3) (σ.2.2.1 1) (qx 4) (σ.2.2.1 2) (qx 7) (σ.1 4) (qx 8) (σ.2.2.1 4) (qx 9) (σ.2.2.1 5) (qx 10) (σ.1 5) (qx 11) (σ.2.2.1 6) (qx 12) (σ.2.2.1 7) (qx 13) (σ.2.2.1 8) (qx 14) (σ.2.2.1 9) (qx 17) (σ.1 8) (qx 18) (σ.2.2.1 11) (qx 19) (σ.2.2.1 12) (qx 20) (σ.2.2.1 13) (qx 21) (σ.2.2.1 14) (qx 22) (σ.2.2.1 15) (qx 23) (σ.2.2.1 16) (qx 24) (σ.2.2.1 17) (qx 25) (σ.2.2.1 18) (qx 26) (σ.2.2.1 19) (qx 27) (σ.1 9) (σ.1 10) (qx 28) (σ.2.2.1 20) (0 : Int32) rx hrz) kw_795 kw_796 kw_797 kw_6 kw_798 ok_X8_bests ⟨by decide, by decide⟩ ⟨by omega, by omega⟩ rfl rfl rfl rfl rfl rfl rfl (Nat.le_of_ble_eq_true rfl) (N0 := 46) rfl [some 0, some 1, some 2, some 3, some 4, none, none, some 5, some 6, some 7, some 8, some 9, some 10, some 11, some 12, none, none, some 13, some 14, some 15, some 16, some 17, some 18, some 19, some 20, some 21, some 22, some 23, some 24, none, none, none, none, none, none, none, none, none, none, none, none, none, none, none, none, none] (by decide) ?_
    intro res wz hB
    rcases hB with ⟨he, rfl, rfl⟩ | ⟨t0, t1, t2, t3, t4, t5, t6, t7, rfl, rfl⟩
    · obtain ⟨v, r2⟩ := rx
      dsimp only at he
      subst he
      refine ⟨_, [], (List.append_nil _).symm, rfl, ?_⟩
      rw [List.append_nil, List.append_nil]
      have h := K zs .null SS [] (kk + 8) (nn + 7339) hs (Or.inl ⟨rfl, rfl, rfl, rfl, rfl, rfl, rfl, z5, z6, rfl, rfl, rfl, rfl, rfl, rfl, rfl⟩) (by omega) (by omega)
      rw [List.append_nil] at h
      exact h
    · have e9 : ∀ (n0 : Int32) (n1 : Int64), n0 = 0 → n1 = 0 → ([oB t0 7 [.ref t1, .int rx.2.2.2.2.2.2.2.2.2.2.2.2.2.2.1, .int rx.2.2.2.2.2.2.2.2.2.2.2.2.2.2.2.1, .ref (qx 1), .ref (qx 10), .ref (qx 17), .ref t2, .ref t3, .ref t4, .ref t5, .ref t6, .ref t7, .int rx.2.2.2.2.2.2.2.2.2.2.2.2.2.2.2.2.1, .int rx.2.2.2.2.2.2.2.2.2.2.2.2.2.2.2.2.2.1, .int rx.2.2.2.2.2.2.2.2.2.2.2.2.2.2.2.2.2.2.1, .int 0, .long 0], aI cA t1 14 rx.2.2.2.2.2.2.2.2.2.2.2.2.2.2.2.2.2.2.2.1, aI cA t2 56 rx.2.2.2.2.2.2.2.2.2.2.2.2.2.2.2.2.2.2.2.2.1, aI cA t3 14 rx.2.2.2.2.2.2.2.2.2.2.2.2.2.2.2.2.2.2.2.2.2.1, aI cA t4 14 rx.2.2.2.2.2.2.2.2.2.2.2.2.2.2.2.2.2.2.2.2.2.2.1, aI cA t5 56 rx.2.2.2.2.2.2.2.2.2.2.2.2.2.2.2.2.2.2.2.2.2.2.2.1, aI cA t6 3584 rx.2.2.2.2.2.2.2.2.2.2.2.2.2.2.2.2.2.2.2.2.2.2.2.2.1, aI cA t7 3584 rx.2.2.2.2.2.2.2.2.2.2.2.2.2.2.2.2.2.2.2.2.2.2.2.2.2] : va_W) = [oB t0 7 [.ref t1, .int rx.2.2.2.2.2.2.2.2.2.2.2.2.2.2.1, .int rx.2.2.2.2.2.2.2.2.2.2.2.2.2.2.2.1, .ref (qx 1), .ref (qx 10), .ref (qx 17), .ref t2, .ref t3, .ref t4, .ref t5, .ref t6, .ref t7, .int rx.2.2.2.2.2.2.2.2.2.2.2.2.2.2.2.2.1, .int rx.2.2.2.2.2.2.2.2.2.2.2.2.2.2.2.2.2.1, .int rx.2.2.2.2.2.2.2.2.2.2.2.2.2.2.2.2.2.2.1, .int n0, .long n1], aI cA t1 14 rx.2.2.2.2.2.2.2.2.2.2.2.2.2.2.2.2.2.2.2.1, aI cA t2 56 rx.2.2.2.2.2.2.2.2.2.2.2.2.2.2.2.2.2.2.2.2.1, aI cA t3 14 rx.2.2.2.2.2.2.2.2.2.2.2.2.2.2.2.2.2.2.2.2.2.1, aI cA t4 14 rx.2.2.2.2.2.2.2.2.2.2.2.2.2.2.2.2.2.2.2.2.2.2.1, aI cA t5 56 rx.2.2.2.2.2.2.2.2.2.2.2.2.2.2.2.2.2.2.2.2.2.2.2.1, aI cA t6 3584 rx.2.2.2.2.2.2.2.2.2.2.2.2.2.2.2.2.2.2.2.2.2.2.2.2.1, aI cA t7 3584 rx.2.2.2.2.2.2.2.2.2.2.2.2.2.2.2.2.2.2.2.2.2.2.2.2.2] := by
        intro n0 n1 g0 g1
        subst g0; subst g1
        rfl
      refine ⟨_, _, rfl, rfl, ?_⟩
      rw [List.append_nil, List.append_assoc]
      exact K zs (.ref t0) SS _ (kk + 8) (nn + 7339) hs (Or.inr ⟨fun i => match i with | 0 => t0 | 1 => t1 | 2 => t2 | 3 => t3 | 4 => t4 | 5 => t5 | 6 => t6 | _ => t7, rfl, e9 _ _ z5 z6⟩) (by omega) (by omega)
  · refine g_perm perm3 ?_
    refine g_callB C 837 (P := PW cA qx qm zs (.ref (qt 0)) σ μ ++ TW cA qx qt σ) [0, 1, 2, 3, 4, 7, 8, 9, 10, 11, 12, 13, 14, 17, 18, 19, 20, 21, 22, 23, 24, 25, 26, 27, 28, 46, 47, 48, 49, 50, 51, 52, 53] 0 (rest := []) (P' := PW cA qx qm zs (.ref (qt 0)) ((upd (upd (upd (upd (upd (upd (upd (upd σ.1 8 rx.2.1) 9 rx.2.2.2.2.2.2.2.2.2.2.2.1) 10 rx.2.2.2.2.2.2.2.2.2.2.2.2.1) 11 rx.2.2.2.2.2.2.2.2.2.2.2.2.2.2.1) 12 rx.2.2.2.2.2.2.2.2.2.2.2.2.2.2.2.1) 13 rx.2.2.2.2.2.2.2.2.2.2.2.2.2.2.2.2.1) 14 rx.2.2.2.2.2.2.2.2.2.2.2.2.2.2.2.2.2.1) 15 rx.2.2.2.2.2.2.2.2.2.2.2.2.2.2.2.2.2.2.1), σ.2.1, (va_up (va_up (va_up (va_up (va_up (va_up (va_up (va_up (va_up (va_up (va_up (va_up (va_up (va_up (va_up (va_up (va_up σ.2.2.1 11 rx.2.2.1) 12 rx.2.2.2.1) 13 rx.2.2.2.2.1) 14 rx.2.2.2.2.2.1) 15 rx.2.2.2.2.2.2.1) 16 rx.2.2.2.2.2.2.2.1) 17 rx.2.2.2.2.2.2.2.2.1) 18 rx.2.2.2.2.2.2.2.2.2.1) 19 rx.2.2.2.2.2.2.2.2.2.2.1) 20 rx.2.2.2.2.2.2.2.2.2.2.2.2.2.1) 21 rx.2.2.2.2.2.2.2.2.2.2.2.2.2.2.2.2.2.2.2.1) 22 rx.2.2.2.2.2.2.2.2.2.2.2.2.2.2.2.2.2.2.2.2.1) 23 rx.2.2.2.2.2.2.2.2.2.2.2.2.2.2.2.2.2.2.2.2.2.1) 24 rx.2.2.2.2.2.2.2.2.2.2.2.2.2.2.2.2.2.2.2.2.2.2.1) 25 rx.2.2.2.2.2.2.2.2.2.2.2.2.2.2.2.2.2.2.2.2.2.2.2.1) 26 rx.2.2.2.2.2.2.2.2.2.2.2.2.2.2.2.2.2.2.2.2.2.2.2.2.1) 27 rx.2.2.2.2.2.2.2.2.2.2.2.2.2.2.2.2.2.2.2.2.2.2.2.2.2), σ.2.2.2.1, σ.2.2.2.2) μ ++ TW cA qx qt ((upd (upd (upd (upd (upd (upd (upd (upd σ.1 8 rx.2.1) 9 rx.2.2.2.2.2.2.2.2.2.2.2.1) 10 rx.2.2.2.2.2.2.2.2.2.2.2.2.1) 11 rx.2.2.2.2.2.2.2.2.2.2.2.2.2.2.1) 12 rx.2.2.2.2.2.2.2.2.2.2.2.2.2.2.2.1) 13 rx.2.2.2.2.2.2.2.2.2.2.2.2.2.2.2.2.1) 14 rx.2.2.2.2.2.2.2.2.2.2.2.2.2.2.2.2.2.1) 15 rx.2.2.2.2.2.2.2.2.2.2.2.2.2.2.2.2.2.2.1), σ.2.1, (va_up (va_up (va_up (va_up (va_up (va_up (va_up (va_up (va_up (va_up (va_up (va_up (va_up (va_up (va_up (va_up (va_up σ.2.2.1 11 rx.2.2.1) 12 rx.2.2.2.1) 13 rx.2.2.2.2.1) 14 rx.2.2.2.2.2.1) 15 rx.2.2.2.2.2.2.1) 16 rx.2.2.2.2.2.2.2.1) 17 rx.2.2.2.2.2.2.2.2.1) 18 rx.2.2.2.2.2.2.2.2.2.1) 19 rx.2.2.2.2.2.2.2.2.2.2.1) 20 rx.2.2.2.2.2.2.2.2.2.2.2.2.2.1) 21 rx.2.2.2.2.2.2.2.2.2.2.2.2.2.2.2.2.2.2.2.1) 22 rx.2.2.2.2.2.2.2.2.2.2.2.2.2.2.2.2.2.2.2.2.1) 23 rx.2.2.2.2.2.2.2.2.2.2.2.2.2.2.2.2.2.2.2.2.2.1) 24 rx.2.2.2.2.2.2.2.2.2.2.2.2.2.2.2.2.2.2.2.2.2.2.1) 25 rx.2.2.2.2.2.2.2.2.2.2.2.2.2.2.2.2.2.2.2.2.2.2.2.1) 26 rx.2.2.2.2.2.2.2.2.2.2.2.2.2.2.2.2.2.2.2.2.2.2.2.2.1) 27 rx.2.2.2.2.2.2.2.2.2.2.2.2.2.2.2.2.2.2.2.2.2.2.2.2.2), σ.2.2.2.1, σ.2.2.2.2)) dL_law_837 (c_X8_bests (x_l X) cA (qx 0) (qx 5) (qx 15) zs (qx 1) (σ.1 0) (σ.1 1) (qx 2) (σ.2.2.1 0) (qx 3) (σ.2.2.1 1) (qx 4) (σ.2.2.1 2) (qx 7) (σ.1 4) (qx 8) (σ.2.2.1 4) (qx 9) (σ.2.2.1 5) (qx 10) (σ.1 5) (qx 11) (σ.2.2.1 6) (qx 12) (σ.2.2.1 7) (qx 13) (σ.2.2.1 8) (qx 14) (σ.2.2.1 9) (qx 17) (σ.1 8) (qx 18) (σ.2.2.1 11) (qx 19) (σ.2.2.1 12) (qx 20) (σ.2.2.1 13) (qx 21) (σ.2.2.1 14) (qx 22) (σ.2.2.1 15) (qx 23) (σ.2.2.1 16) (qx 24) (σ.2.2.1 17) (qx 25) (σ.2.2.1 18) (qx 26) (σ.2.2.1 19) (qx 27) (σ.1 9) (σ.1 10) (qx 28) (σ.2.2.1 20) (qt 0) (σ.1 11) (σ.1 12) (σ.1 13) (σ.1 14) (σ.1 15) (σ.1 16) (σ.2.1 0) (qt 1) (σ.2.2.1 21) (qt 2) (σ.2.2.1 22) (qt 3) (σ.2.2.1 23) (qt 4) (σ.2.2.1 24) (qt 5) (σ.2.2.1 25) (qt 6) (σ.2.2.1 26) (qt 7) (σ.2.2.1 27) (0 : Int32) rx hrx) kw_795 kw_796 kw_797 kw_6 kw_798 ok_X8_bests ⟨by decide, by decide⟩ ⟨by omega, by omega⟩ ⟨rfl, rfl⟩ rfl rfl rfl rfl rfl (Nat.le_of_ble_eq_true rfl) rfl (N0 := 54) rfl [some 0, some 1, some 2, some 3, some 4, none, none, some 5, some 6, some 7, some 8, some 9, some 10, some 11, some 12, none, none, some 13, some 14, some 15, some 16, some 17, some 18, some 19, some 20, some 21, some 22, some 23, some 24, none, none, none, none, none, none, none, none, none, none, none, none, none, none, none, none, none, some 25, some 26, some 27, some 28, some 29, some 30, some 31, some 32] (by decide) rfl rfl ?_
    refine g_perm perm3.symm ?_
    exact K zs (.ref (qt 0)) SS _ kk nn hs (Or.inr ⟨qt, rfl, rfl⟩) (by omega) (by omega)

set_option maxRecDepth 100000 in
set_option maxHeartbeats 2000000 in
theorem op_27_0 {X : XT} {cA : Nat → ClassId} {b L : Nat} {xs : Nat → Int32} (C : Cx X cL_law RL (some .boolean) cA 2048 84000 4) (E : Sx X b L xs) (hL : L < 2 ^ 31) (qx qm : Nat → Nat) (j : Nat) (hj : 5 * j + 5 ≤ L) (zs zt : Value) (SS TT : va_W) (kk nn : Nat) (hk : kk + 50 ≤ (x_R X).cells ∧ nn + 8000 ≤ (x_R X).slots) (σ σ' : XS) (μ μ' : MS) (hs : HS cA σ zs SS) (ht : HT cA qx σ zt TT) (hb : xs (5 * j + 1) = 0) (v w : Int64) (hx : sx_bests (0 : Int32) σ = some (v, σ')) (hm : sm_bests (0 : Int32) μ = some (w, μ')) (K : ∀ (zs' zt' : Value) (SS' TT' : va_W) (kk' nn' : Nat), HS cA σ' zs' SS' → HT cA qx σ' zt' TT' → kk' ≤ kk + 50 → nn' ≤ nn + 8000 → Go X 4 kk' nn' 1030 (PW cA qx qm zs' zt' σ' μ' ++ (SS' ++ TT')) [(0, .ref b), (1, .ref (qx 0)), (2, .ref (qm 0)), (3, .int (nI (5 * j)))] []) : Go X 4 kk nn 823 (PW cA qx qm zs zt σ μ ++ (SS ++ TT)) [(0, .ref b), (1, .ref (qx 0)), (2, .ref (qm 0)), (3, .int (nI (5 * j)))] [] := by
  unfold sm_bests at hm
  obtain ⟨rm, hrm, hm⟩ := cal_some hm
  obtain ⟨e3, e4⟩ := some_pair hm
  subst e3
  subst e4
  refine g_aload_n C 823 1 dL_law_823 rfl rfl ?_
  refine g_aload_n C 824 0 dL_law_824 rfl rfl ?_
  refine g_iload_n C 825 3 dL_law_825 rfl rfl ?_
  refine g_iconst C 826 (1 : Int32) dL_law_826 (by decide) ?_
  refine g_iadd C 827 dL_law_827 ?_
  refine g_sld C 828 E (5 * j + 1) dL_law_828 (nI_add (5 * j) 1) (by omega) hL ?_
  refine g_if_eq C 829 836 dL_law_829 (by decide) (if_pos hb : (if (xs (5 * j + 1)) = 0 then some () else none) = some ()) (fun _ => ?_) (fun h => by cases h)
  refine g_iconst C 836 (0 : Int32) dL_law_836 (by decide) ?_
  refine xc_op_27_0 C E hL qx qm j hj zs zt SS TT kk nn hk σ σ' μ hs ht v hx ?_
  intro zs' zt' SS' TT' kk' nn' hs2 ht2 hk1 hn1
  have hk2 : kk' ≤ (x_R X).cells ∧ nn' ≤ (x_R X).slots := ⟨by omega, by omega⟩
  refine g_pop2 C 840 dL_law_840 rfl ?_
  refine g_aload_n C 841 2 dL_law_841 rfl rfl ?_
  refine g_aload_n C 842 0 dL_law_842 rfl rfl ?_
  refine g_iload_n C 843 3 dL_law_843 rfl rfl ?_
  refine g_iconst C 844 (1 : Int32) dL_law_844 (by decide) ?_
  refine g_iadd C 845 dL_law_845 ?_
  refine g_sld C 846 E (5 * j + 1) dL_law_846 (nI_add (5 * j) 1) (by omega) hL ?_
  refine g_if_eq C 847 854 dL_law_847 (by decide) (if_pos hb : (if (xs (5 * j + 1)) = 0 then some () else none) = some ()) (fun _ => ?_) (fun h => by cases h)
  refine g_iconst C 854 (0 : Int32) dL_law_854 (by decide) ?_
  refine g_callB C 855 (P := PW cA qx qm zs' zt' σ' μ) [29, 30, 31, 32, 34, 35, 37, 38, 39, 40, 41, 42, 43, 44, 45] 29 (rest := []) (P' := PW cA qx qm zs' zt' σ' (μ.1, (vp_updL (vp_updL (vp_updL μ.2.1 0 rm.2.1) 1 rm.2.2.1) 2 rm.2.2.2.1), (va_up (va_up μ.2.2.1 11 rm.2.2.2.2.1) 12 rm.2.2.2.2.2.1), (va_up (va_up (va_up μ.2.2.2 0 rm.2.2.2.2.2.2.1) 1 rm.2.2.2.2.2.2.2.1) 2 rm.2.2.2.2.2.2.2.2))) dL_law_855 (c_X9_bests (x_l X) cA (qm 0) (μ.1 0) (μ.1 1) (qm 4) (μ.1 2) (qm 7) (μ.1 3) (μ.2.1 0) (μ.2.1 1) (μ.2.1 2) (qm 1) (μ.2.2.1 0) (qm 2) (μ.2.2.1 1) (qm 3) (μ.2.2.1 2) (qm 5) (μ.2.2.1 4) (qm 6) (μ.2.2.1 5) (qm 8) (μ.2.2.1 7) (qm 9) (μ.2.2.1 8) (qm 10) (μ.2.2.1 9) (qm 11) (μ.2.2.1 10) (qm 12) (μ.2.2.1 11) (qm 13) (μ.2.2.1 12) (qm 14) (μ.2.2.2 0) (qm 15) (μ.2.2.2 1) (qm 16) (μ.2.2.2 2) (0 : Int32) rm hrm) kw_791 kw_792 kw_793 kw_343 kw_794 ok_X9_bests ⟨by decide, by decide⟩ hk2 ⟨rfl, rfl⟩ rfl rfl rfl rfl rfl (Nat.le_of_ble_eq_true rfl) rfl (N0 := 46) rfl [none, none, none, none, none, none, none, none, none, none, none, none, none, none, none, none, none, none, none, none, none, none, none, none, none, none, none, none, none, some 0, some 1, some 2, some 3, none, some 4, some 5, none, some 6, some 7, some 8, some 9, some 10, some 11, some 12, some 13, some 14] (by decide) rfl (st' := [.long rm.1]) rfl ?_
  refine g_pop2 C 858 dL_law_858 rfl ?_
  refine g_goto C 859 1030 dL_law_859 (by decide) ?_
  exact K zs' zt' SS' TT' kk' nn' hs2 ht2 hk1 hn1

set_option maxRecDepth 100000 in
set_option maxHeartbeats 2000000 in
theorem xc_op_27_1 {X : XT} {cA : Nat → ClassId} {b L : Nat} {xs : Nat → Int32} (C : Cx X cL_law RL (some .boolean) cA 2048 84000 4) (E : Sx X b L xs) (hL : L < 2 ^ 31) (qx qm : Nat → Nat) (j : Nat) (hj : 5 * j + 5 ≤ L) (zs zt : Value) (SS TT : va_W) (kk nn : Nat) (hk : kk + 50 ≤ (x_R X).cells ∧ nn + 8000 ≤ (x_R X).slots) (σ σ' : XS) (μ : MS) (hs : HS cA σ zs SS) (ht : HT cA qx σ zt TT) (v : Int64) (hx : sx_bests (1 : Int32) σ = some (v, σ')) (K : ∀ (zs' zt' : Value) (SS' TT' : va_W) (kk' nn' : Nat), HS cA σ' zs' SS' → HT cA qx σ' zt' TT' → kk' ≤ kk + 50 → nn' ≤ nn + 8000 → Go X 4 kk' nn' 840 (PW cA qx qm zs' zt' σ' μ ++ (SS' ++ TT')) [(0, .ref b), (1, .ref (qx 0)), (2, .ref (qm 0)), (3, .int (nI (5 * j)))] [.long v]) : Go X 4 kk nn 837 (PW cA qx qm zs zt σ μ ++ (SS ++ TT)) [(0, .ref b), (1, .ref (qx 0)), (2, .ref (qm 0)), (3, .int (nI (5 * j)))] [.int (1 : Int32), .ref (qx 0)] := by
  unfold sx_bests at hx
  obtain ⟨rx, hrx, hx⟩ := cal_some hx
  obtain ⟨e1, e2⟩ := some_pair hx
  subst e1
  subst e2
  rcases ht with ⟨rfl, rfl, hz⟩ | ⟨qt, rfl, rfl⟩
  · obtain ⟨z0, z1, z2, z3, z4, z5, z6, z7, z8, z9, z10, z11, z12, z13⟩ := id hz
    have hrz := hrx
    simp only [z0, z1, z2, z3, z4, z5, z6, z7, z8, z9, z10, z11, z12, z13] at hrz
    refine g_callNB C 837 (P := PW cA qx qm zs .null σ μ) (S := SS ++ []) [0, 1, 2, 3, 4, 7, 8, 9, 10, 11, 12, 13, 14, 17, 18, 19, 20, 21, 22, 23, 24, 25, 26, 27, 28] 0 (rest := []) (kk + 8) (nn + 7339) dL_law_837 (c_X8_bestsA (x_l X) cA (qx 0) (qx 5) (qx 15) zs (qx 1) (σ.1 0) (σ.1 1) (qx 2) (σ.2.2.1 0) (qx 3) (σ.2.2.1 1) (qx 4) (σ.2.2.1 2) (qx 7) (σ.1 4) (qx 8) (σ.2.2.1 4) (qx 9) (σ.2.2.1 5) (qx 10) (σ.1 5) (qx 11) (σ.2.2.1 6) (qx 12) (σ.2.2.1 7) (qx 13) (σ.2.2.1 8) (qx 14) (σ.2.2.1 9) (qx 17) (σ.1 8) (qx 18) (σ.2.2.1 11) (qx 19) (σ.2.2.1 12) (qx 20) (σ.2.2.1 13) (qx 21) (σ.2.2.1 14) (qx 22) (σ.2.2.1 15) (qx 23) (σ.2.2.1 16) (qx 24) (σ.2.2.1 17) (qx 25) (σ.2.2.1 18) (qx 26) (σ.2.2.1 19) (qx 27) (σ.1 9) (σ.1 10) (qx 28) (σ.2.2.1 20) (1 : Int32) rx hrz) kw_795 kw_796 kw_797 kw_6 kw_798 ok_X8_bests ⟨by decide, by decide⟩ ⟨by omega, by omega⟩ rfl rfl rfl rfl rfl rfl rfl (Nat.le_of_ble_eq_true rfl) (N0 := 46) rfl [some 0, some 1, some 2, some 3, some 4, none, none, some 5, some 6, some 7, some 8, some 9, some 10, some 11, some 12, none, none, some 13, some 14, some 15, some 16, some 17, some 18, some 19, some 20, some 21, some 22, some 23, some 24, none, none, none, none, none, none, none, none, none, none, none, none, none, none, none, none, none] (by decide) ?_
    intro res wz hB
    rcases hB with ⟨he, rfl, rfl⟩ | ⟨t0, t1, t2, t3, t4, t5, t6, t7, rfl, rfl⟩
    · obtain ⟨v, r2⟩ := rx
      dsimp only at he
      subst he
      refine ⟨_, [], (List.append_nil _).symm, rfl, ?_⟩
      rw [List.append_nil, List.append_nil]
      have h := K zs .null SS [] (kk + 8) (nn + 7339) hs (Or.inl ⟨rfl, rfl, rfl, rfl, rfl, rfl, rfl, z5, z6, rfl, rfl, rfl, rfl, rfl, rfl, rfl⟩) (by omega) (by omega)
      rw [List.append_nil] at h
      exact h
    · have e9 : ∀ (n0 : Int32) (n1 : Int64), n0 = 0 → n1 = 0 → ([oB t0 7 [.ref t1, .int rx.2.2.2.2.2.2.2.2.2.2.2.2.2.2.1, .int rx.2.2.2.2.2.2.2.2.2.2.2.2.2.2.2.1, .ref (qx 1), .ref (qx 10), .ref (qx 17), .ref t2, .ref t3, .ref t4, .ref t5, .ref t6, .ref t7, .int rx.2.2.2.2.2.2.2.2.2.2.2.2.2.2.2.2.1, .int rx.2.2.2.2.2.2.2.2.2.2.2.2.2.2.2.2.2.1, .int rx.2.2.2.2.2.2.2.2.2.2.2.2.2.2.2.2.2.2.1, .int 0, .long 0], aI cA t1 14 rx.2.2.2.2.2.2.2.2.2.2.2.2.2.2.2.2.2.2.2.1, aI cA t2 56 rx.2.2.2.2.2.2.2.2.2.2.2.2.2.2.2.2.2.2.2.2.1, aI cA t3 14 rx.2.2.2.2.2.2.2.2.2.2.2.2.2.2.2.2.2.2.2.2.2.1, aI cA t4 14 rx.2.2.2.2.2.2.2.2.2.2.2.2.2.2.2.2.2.2.2.2.2.2.1, aI cA t5 56 rx.2.2.2.2.2.2.2.2.2.2.2.2.2.2.2.2.2.2.2.2.2.2.2.1, aI cA t6 3584 rx.2.2.2.2.2.2.2.2.2.2.2.2.2.2.2.2.2.2.2.2.2.2.2.2.1, aI cA t7 3584 rx.2.2.2.2.2.2.2.2.2.2.2.2.2.2.2.2.2.2.2.2.2.2.2.2.2] : va_W) = [oB t0 7 [.ref t1, .int rx.2.2.2.2.2.2.2.2.2.2.2.2.2.2.1, .int rx.2.2.2.2.2.2.2.2.2.2.2.2.2.2.2.1, .ref (qx 1), .ref (qx 10), .ref (qx 17), .ref t2, .ref t3, .ref t4, .ref t5, .ref t6, .ref t7, .int rx.2.2.2.2.2.2.2.2.2.2.2.2.2.2.2.2.1, .int rx.2.2.2.2.2.2.2.2.2.2.2.2.2.2.2.2.2.1, .int rx.2.2.2.2.2.2.2.2.2.2.2.2.2.2.2.2.2.2.1, .int n0, .long n1], aI cA t1 14 rx.2.2.2.2.2.2.2.2.2.2.2.2.2.2.2.2.2.2.2.1, aI cA t2 56 rx.2.2.2.2.2.2.2.2.2.2.2.2.2.2.2.2.2.2.2.2.1, aI cA t3 14 rx.2.2.2.2.2.2.2.2.2.2.2.2.2.2.2.2.2.2.2.2.2.1, aI cA t4 14 rx.2.2.2.2.2.2.2.2.2.2.2.2.2.2.2.2.2.2.2.2.2.2.1, aI cA t5 56 rx.2.2.2.2.2.2.2.2.2.2.2.2.2.2.2.2.2.2.2.2.2.2.2.1, aI cA t6 3584 rx.2.2.2.2.2.2.2.2.2.2.2.2.2.2.2.2.2.2.2.2.2.2.2.2.1, aI cA t7 3584 rx.2.2.2.2.2.2.2.2.2.2.2.2.2.2.2.2.2.2.2.2.2.2.2.2.2] := by
        intro n0 n1 g0 g1
        subst g0; subst g1
        rfl
      refine ⟨_, _, rfl, rfl, ?_⟩
      rw [List.append_nil, List.append_assoc]
      exact K zs (.ref t0) SS _ (kk + 8) (nn + 7339) hs (Or.inr ⟨fun i => match i with | 0 => t0 | 1 => t1 | 2 => t2 | 3 => t3 | 4 => t4 | 5 => t5 | 6 => t6 | _ => t7, rfl, e9 _ _ z5 z6⟩) (by omega) (by omega)
  · refine g_perm perm3 ?_
    refine g_callB C 837 (P := PW cA qx qm zs (.ref (qt 0)) σ μ ++ TW cA qx qt σ) [0, 1, 2, 3, 4, 7, 8, 9, 10, 11, 12, 13, 14, 17, 18, 19, 20, 21, 22, 23, 24, 25, 26, 27, 28, 46, 47, 48, 49, 50, 51, 52, 53] 0 (rest := []) (P' := PW cA qx qm zs (.ref (qt 0)) ((upd (upd (upd (upd (upd (upd (upd (upd σ.1 8 rx.2.1) 9 rx.2.2.2.2.2.2.2.2.2.2.2.1) 10 rx.2.2.2.2.2.2.2.2.2.2.2.2.1) 11 rx.2.2.2.2.2.2.2.2.2.2.2.2.2.2.1) 12 rx.2.2.2.2.2.2.2.2.2.2.2.2.2.2.2.1) 13 rx.2.2.2.2.2.2.2.2.2.2.2.2.2.2.2.2.1) 14 rx.2.2.2.2.2.2.2.2.2.2.2.2.2.2.2.2.2.1) 15 rx.2.2.2.2.2.2.2.2.2.2.2.2.2.2.2.2.2.2.1), σ.2.1, (va_up (va_up (va_up (va_up (va_up (va_up (va_up (va_up (va_up (va_up (va_up (va_up (va_up (va_up (va_up (va_up (va_up σ.2.2.1 11 rx.2.2.1) 12 rx.2.2.2.1) 13 rx.2.2.2.2.1) 14 rx.2.2.2.2.2.1) 15 rx.2.2.2.2.2.2.1) 16 rx.2.2.2.2.2.2.2.1) 17 rx.2.2.2.2.2.2.2.2.1) 18 rx.2.2.2.2.2.2.2.2.2.1) 19 rx.2.2.2.2.2.2.2.2.2.2.1) 20 rx.2.2.2.2.2.2.2.2.2.2.2.2.2.1) 21 rx.2.2.2.2.2.2.2.2.2.2.2.2.2.2.2.2.2.2.2.1) 22 rx.2.2.2.2.2.2.2.2.2.2.2.2.2.2.2.2.2.2.2.2.1) 23 rx.2.2.2.2.2.2.2.2.2.2.2.2.2.2.2.2.2.2.2.2.2.1) 24 rx.2.2.2.2.2.2.2.2.2.2.2.2.2.2.2.2.2.2.2.2.2.2.1) 25 rx.2.2.2.2.2.2.2.2.2.2.2.2.2.2.2.2.2.2.2.2.2.2.2.1) 26 rx.2.2.2.2.2.2.2.2.2.2.2.2.2.2.2.2.2.2.2.2.2.2.2.2.1) 27 rx.2.2.2.2.2.2.2.2.2.2.2.2.2.2.2.2.2.2.2.2.2.2.2.2.2), σ.2.2.2.1, σ.2.2.2.2) μ ++ TW cA qx qt ((upd (upd (upd (upd (upd (upd (upd (upd σ.1 8 rx.2.1) 9 rx.2.2.2.2.2.2.2.2.2.2.2.1) 10 rx.2.2.2.2.2.2.2.2.2.2.2.2.1) 11 rx.2.2.2.2.2.2.2.2.2.2.2.2.2.2.1) 12 rx.2.2.2.2.2.2.2.2.2.2.2.2.2.2.2.1) 13 rx.2.2.2.2.2.2.2.2.2.2.2.2.2.2.2.2.1) 14 rx.2.2.2.2.2.2.2.2.2.2.2.2.2.2.2.2.2.1) 15 rx.2.2.2.2.2.2.2.2.2.2.2.2.2.2.2.2.2.2.1), σ.2.1, (va_up (va_up (va_up (va_up (va_up (va_up (va_up (va_up (va_up (va_up (va_up (va_up (va_up (va_up (va_up (va_up (va_up σ.2.2.1 11 rx.2.2.1) 12 rx.2.2.2.1) 13 rx.2.2.2.2.1) 14 rx.2.2.2.2.2.1) 15 rx.2.2.2.2.2.2.1) 16 rx.2.2.2.2.2.2.2.1) 17 rx.2.2.2.2.2.2.2.2.1) 18 rx.2.2.2.2.2.2.2.2.2.1) 19 rx.2.2.2.2.2.2.2.2.2.2.1) 20 rx.2.2.2.2.2.2.2.2.2.2.2.2.2.1) 21 rx.2.2.2.2.2.2.2.2.2.2.2.2.2.2.2.2.2.2.2.1) 22 rx.2.2.2.2.2.2.2.2.2.2.2.2.2.2.2.2.2.2.2.2.1) 23 rx.2.2.2.2.2.2.2.2.2.2.2.2.2.2.2.2.2.2.2.2.2.1) 24 rx.2.2.2.2.2.2.2.2.2.2.2.2.2.2.2.2.2.2.2.2.2.2.1) 25 rx.2.2.2.2.2.2.2.2.2.2.2.2.2.2.2.2.2.2.2.2.2.2.2.1) 26 rx.2.2.2.2.2.2.2.2.2.2.2.2.2.2.2.2.2.2.2.2.2.2.2.2.1) 27 rx.2.2.2.2.2.2.2.2.2.2.2.2.2.2.2.2.2.2.2.2.2.2.2.2.2), σ.2.2.2.1, σ.2.2.2.2)) dL_law_837 (c_X8_bests (x_l X) cA (qx 0) (qx 5) (qx 15) zs (qx 1) (σ.1 0) (σ.1 1) (qx 2) (σ.2.2.1 0) (qx 3) (σ.2.2.1 1) (qx 4) (σ.2.2.1 2) (qx 7) (σ.1 4) (qx 8) (σ.2.2.1 4) (qx 9) (σ.2.2.1 5) (qx 10) (σ.1 5) (qx 11) (σ.2.2.1 6) (qx 12) (σ.2.2.1 7) (qx 13) (σ.2.2.1 8) (qx 14) (σ.2.2.1 9) (qx 17) (σ.1 8) (qx 18) (σ.2.2.1 11) (qx 19) (σ.2.2.1 12) (qx 20) (σ.2.2.1 13) (qx 21) (σ.2.2.1 14) (qx 22) (σ.2.2.1 15) (qx 23) (σ.2.2.1 16) (qx 24) (σ.2.2.1 17) (qx 25) (σ.2.2.1 18) (qx 26) (σ.2.2.1 19) (qx 27) (σ.1 9) (σ.1 10) (qx 28) (σ.2.2.1 20) (qt 0) (σ.1 11) (σ.1 12) (σ.1 13) (σ.1 14) (σ.1 15) (σ.1 16) (σ.2.1 0) (qt 1) (σ.2.2.1 21) (qt 2) (σ.2.2.1 22) (qt 3) (σ.2.2.1 23) (qt 4) (σ.2.2.1 24) (qt 5) (σ.2.2.1 25) (qt 6) (σ.2.2.1 26) (qt 7) (σ.2.2.1 27) (1 : Int32) rx hrx) kw_795 kw_796 kw_797 kw_6 kw_798 ok_X8_bests ⟨by decide, by decide⟩ ⟨by omega, by omega⟩ ⟨rfl, rfl⟩ rfl rfl rfl rfl rfl (Nat.le_of_ble_eq_true rfl) rfl (N0 := 54) rfl [some 0, some 1, some 2, some 3, some 4, none, none, some 5, some 6, some 7, some 8, some 9, some 10, some 11, some 12, none, none, some 13, some 14, some 15, some 16, some 17, some 18, some 19, some 20, some 21, some 22, some 23, some 24, none, none, none, none, none, none, none, none, none, none, none, none, none, none, none, none, none, some 25, some 26, some 27, some 28, some 29, some 30, some 31, some 32] (by decide) rfl rfl ?_
    refine g_perm perm3.symm ?_
    exact K zs (.ref (qt 0)) SS _ kk nn hs (Or.inr ⟨qt, rfl, rfl⟩) (by omega) (by omega)

set_option maxRecDepth 100000 in
set_option maxHeartbeats 2000000 in
theorem op_27_1 {X : XT} {cA : Nat → ClassId} {b L : Nat} {xs : Nat → Int32} (C : Cx X cL_law RL (some .boolean) cA 2048 84000 4) (E : Sx X b L xs) (hL : L < 2 ^ 31) (qx qm : Nat → Nat) (j : Nat) (hj : 5 * j + 5 ≤ L) (zs zt : Value) (SS TT : va_W) (kk nn : Nat) (hk : kk + 50 ≤ (x_R X).cells ∧ nn + 8000 ≤ (x_R X).slots) (σ σ' : XS) (μ μ' : MS) (hs : HS cA σ zs SS) (ht : HT cA qx σ zt TT) (hb : ¬ xs (5 * j + 1) = 0) (v w : Int64) (hx : sx_bests (1 : Int32) σ = some (v, σ')) (hm : sm_bests (1 : Int32) μ = some (w, μ')) (K : ∀ (zs' zt' : Value) (SS' TT' : va_W) (kk' nn' : Nat), HS cA σ' zs' SS' → HT cA qx σ' zt' TT' → kk' ≤ kk + 50 → nn' ≤ nn + 8000 → Go X 4 kk' nn' 1030 (PW cA qx qm zs' zt' σ' μ' ++ (SS' ++ TT')) [(0, .ref b), (1, .ref (qx 0)), (2, .ref (qm 0)), (3, .int (nI (5 * j)))] []) : Go X 4 kk nn 823 (PW cA qx qm zs zt σ μ ++ (SS ++ TT)) [(0, .ref b), (1, .ref (qx 0)), (2, .ref (qm 0)), (3, .int (nI (5 * j)))] [] := by
  unfold sm_bests at hm
  obtain ⟨rm, hrm, hm⟩ := cal_some hm
  obtain ⟨e3, e4⟩ := some_pair hm
  subst e3
  subst e4
  refine g_aload_n C 823 1 dL_law_823 rfl rfl ?_
  refine g_aload_n C 824 0 dL_law_824 rfl rfl ?_
  refine g_iload_n C 825 3 dL_law_825 rfl rfl ?_
  refine g_iconst C 826 (1 : Int32) dL_law_826 (by decide) ?_
  refine g_iadd C 827 dL_law_827 ?_
  refine g_sld C 828 E (5 * j + 1) dL_law_828 (nI_add (5 * j) 1) (by omega) hL ?_
  refine g_if_eq C 829 836 dL_law_829 (by decide) (if_neg hb : (if (xs (5 * j + 1)) = 0 then none else some ()) = some ()) (fun h => by cases h) (fun _ => ?_)
  refine g_iconst C 832 (1 : Int32) dL_law_832 (by decide) ?_
  refine g_goto C 833 837 dL_law_833 (by decide) ?_
  refine xc_op_27_1 C E hL qx qm j hj zs zt SS TT kk nn hk σ σ' μ hs ht v hx ?_
  intro zs' zt' SS' TT' kk' nn' hs2 ht2 hk1 hn1
  have hk2 : kk' ≤ (x_R X).cells ∧ nn' ≤ (x_R X).slots := ⟨by omega, by omega⟩
  refine g_pop2 C 840 dL_law_840 rfl ?_
  refine g_aload_n C 841 2 dL_law_841 rfl rfl ?_
  refine g_aload_n C 842 0 dL_law_842 rfl rfl ?_
  refine g_iload_n C 843 3 dL_law_843 rfl rfl ?_
  refine g_iconst C 844 (1 : Int32) dL_law_844 (by decide) ?_
  refine g_iadd C 845 dL_law_845 ?_
  refine g_sld C 846 E (5 * j + 1) dL_law_846 (nI_add (5 * j) 1) (by omega) hL ?_
  refine g_if_eq C 847 854 dL_law_847 (by decide) (if_neg hb : (if (xs (5 * j + 1)) = 0 then none else some ()) = some ()) (fun h => by cases h) (fun _ => ?_)
  refine g_iconst C 850 (1 : Int32) dL_law_850 (by decide) ?_
  refine g_goto C 851 855 dL_law_851 (by decide) ?_
  refine g_callB C 855 (P := PW cA qx qm zs' zt' σ' μ) [29, 30, 31, 32, 34, 35, 37, 38, 39, 40, 41, 42, 43, 44, 45] 29 (rest := []) (P' := PW cA qx qm zs' zt' σ' (μ.1, (vp_updL (vp_updL (vp_updL μ.2.1 0 rm.2.1) 1 rm.2.2.1) 2 rm.2.2.2.1), (va_up (va_up μ.2.2.1 11 rm.2.2.2.2.1) 12 rm.2.2.2.2.2.1), (va_up (va_up (va_up μ.2.2.2 0 rm.2.2.2.2.2.2.1) 1 rm.2.2.2.2.2.2.2.1) 2 rm.2.2.2.2.2.2.2.2))) dL_law_855 (c_X9_bests (x_l X) cA (qm 0) (μ.1 0) (μ.1 1) (qm 4) (μ.1 2) (qm 7) (μ.1 3) (μ.2.1 0) (μ.2.1 1) (μ.2.1 2) (qm 1) (μ.2.2.1 0) (qm 2) (μ.2.2.1 1) (qm 3) (μ.2.2.1 2) (qm 5) (μ.2.2.1 4) (qm 6) (μ.2.2.1 5) (qm 8) (μ.2.2.1 7) (qm 9) (μ.2.2.1 8) (qm 10) (μ.2.2.1 9) (qm 11) (μ.2.2.1 10) (qm 12) (μ.2.2.1 11) (qm 13) (μ.2.2.1 12) (qm 14) (μ.2.2.2 0) (qm 15) (μ.2.2.2 1) (qm 16) (μ.2.2.2 2) (1 : Int32) rm hrm) kw_791 kw_792 kw_793 kw_343 kw_794 ok_X9_bests ⟨by decide, by decide⟩ hk2 ⟨rfl, rfl⟩ rfl rfl rfl rfl rfl (Nat.le_of_ble_eq_true rfl) rfl (N0 := 46) rfl [none, none, none, none, none, none, none, none, none, none, none, none, none, none, none, none, none, none, none, none, none, none, none, none, none, none, none, none, none, some 0, some 1, some 2, some 3, none, some 4, some 5, none, some 6, some 7, some 8, some 9, some 10, some 11, some 12, some 13, some 14] (by decide) rfl (st' := [.long rm.1]) rfl ?_
  refine g_pop2 C 858 dL_law_858 rfl ?_
  refine g_goto C 859 1030 dL_law_859 (by decide) ?_
  exact K zs' zt' SS' TT' kk' nn' hs2 ht2 hk1 hn1

set_option maxRecDepth 100000 in
set_option maxHeartbeats 2000000 in
theorem xc_op_28_0 {X : XT} {cA : Nat → ClassId} {b L : Nat} {xs : Nat → Int32} (C : Cx X cL_law RL (some .boolean) cA 2048 84000 4) (E : Sx X b L xs) (hL : L < 2 ^ 31) (qx qm : Nat → Nat) (j : Nat) (hj : 5 * j + 5 ≤ L) (zs zt : Value) (SS TT : va_W) (kk nn : Nat) (hk : kk + 50 ≤ (x_R X).cells ∧ nn + 8000 ≤ (x_R X).slots) (σ σ' : XS) (μ : MS) (hs : HS cA σ zs SS) (ht : HT cA qx σ zt TT) (v : Int32) (hx : sx_choice (0 : Int32) (xs (5 * j + 2)) σ = some (v, σ')) (K : ∀ (zs' zt' : Value) (SS' TT' : va_W) (kk' nn' : Nat), HS cA σ' zs' SS' → HT cA qx σ' zt' TT' → kk' ≤ kk + 50 → nn' ≤ nn + 8000 → Go X 4 kk' nn' 884 (PW cA qx qm zs' zt' σ' μ ++ (SS' ++ TT')) [(0, .ref b), (1, .ref (qx 0)), (2, .ref (qm 0)), (3, .int (nI (5 * j)))] [.int v]) : Go X 4 kk nn 881 (PW cA qx qm zs zt σ μ ++ (SS ++ TT)) [(0, .ref b), (1, .ref (qx 0)), (2, .ref (qm 0)), (3, .int (nI (5 * j)))] [.int (xs (5 * j + 2)), .int (0 : Int32), .ref (qx 0)] := by
  unfold sx_choice at hx
  obtain ⟨rx, hrx, hx⟩ := cal_some hx
  obtain ⟨e1, e2⟩ := some_pair hx
  subst e1
  subst e2
  rcases ht with ⟨rfl, rfl, hz⟩ | ⟨qt, rfl, rfl⟩
  · obtain ⟨z0, z1, z2, z3, z4, z5, z6, z7, z8, z9, z10, z11, z12, z13⟩ := id hz
    have hrz := hrx
    simp only [z0, z1, z2, z3, z4, z5, z6, z7, z8, z9, z10, z11, z12, z13] at hrz
    refine g_callNB C 881 (P := PW cA qx qm zs .null σ μ) (S := SS ++ []) [0, 1, 2, 3, 4, 7, 8, 9, 10, 11, 12, 13, 14, 17, 18, 19, 20, 21, 22, 23, 24, 25, 26, 27, 28] 0 (rest := []) (kk + 8) (nn + 7339) dL_law_881 (c_X8_choiceA (x_l X) cA (qx 0) (qx 5) (qx 15) zs (qx 1) (σ.1 0) (σ.1 1) (qx 2) (σ.2.2.1 0) (qx 3) (σ.2.2.1 1) (qx 4) (σ.2.2.1 2) (qx 7) (σ.1 4) (qx 8) (σ.2.2.1 4) (qx 9) (σ.2.2.1 5) (qx 10) (σ.1 5) (qx 11) (σ.2.2.1 6) (qx 12) (σ.2.2.1 7) (qx 13) (σ.2.2.1 8) (qx 14) (σ.2.2.1 9) (qx 17) (σ.1 8) (qx 18) (σ.2.2.1 11) (qx 19) (σ.2.2.1 12) (qx 20) (σ.2.2.1 13) (qx 21) (σ.2.2.1 14) (qx 22) (σ.2.2.1 15) (qx 23) (σ.2.2.1 16) (qx 24) (σ.2.2.1 17) (qx 25) (σ.2.2.1 18) (qx 26) (σ.2.2.1 19) (qx 27) (σ.1 9) (σ.1 10) (qx 28) (σ.2.2.1 20) (0 : Int32) (xs (5 * j + 2)) rx hrz) kw_803 kw_804 kw_805 kw_6 kw_806 ok_X8_choice ⟨by decide, by decide⟩ ⟨by omega, by omega⟩ rfl rfl rfl rfl rfl rfl rfl (Nat.le_of_ble_eq_true rfl) (N0 := 46) rfl [some 0, some 1, some 2, some 3, some 4, none, none, some 5, some 6, some 7, some 8, some 9, some 10, some 11, some 12, none, none, some 13, some 14, some 15, some 16, some 17, some 18, some 19, some 20, some 21, some 22, some 23, some 24, none, none, none, none, none, none, none, none, none, none, none, none, none, none, none, none, none] (by decide) ?_
    intro res wz hB
    rcases hB with ⟨he, rfl, rfl⟩ | ⟨t0, t1, t2, t3, t4, t5, t6, t7, rfl, rfl⟩
    · obtain ⟨v, r2⟩ := rx
      dsimp only at he
      subst he
      refine ⟨_, [], (List.append_nil _).symm, rfl, ?_⟩
      rw [List.append_nil, List.append_nil]
      have h := K zs .null SS [] (kk + 8) (nn + 7339) hs (Or.inl ⟨rfl, rfl, rfl, rfl, rfl, rfl, rfl, rfl, rfl, rfl, rfl, rfl, rfl, rfl, rfl, rfl⟩) (by omega) (by omega)
      rw [List.append_nil] at h
      exact h
    · refine ⟨_, _, rfl, rfl, ?_⟩
      rw [List.append_nil, List.append_assoc]
      exact K zs (.ref t0) SS _ (kk + 8) (nn + 7339) hs (Or.inr ⟨fun i => match i with | 0 => t0 | 1 => t1 | 2 => t2 | 3 => t3 | 4 => t4 | 5 => t5 | 6 => t6 | _ => t7, rfl, rfl⟩) (by omega) (by omega)
  · refine g_perm perm3 ?_
    refine g_callB C 881 (P := PW cA qx qm zs (.ref (qt 0)) σ μ ++ TW cA qx qt σ) [0, 1, 2, 3, 4, 7, 8, 9, 10, 11, 12, 13, 14, 17, 18, 19, 20, 21, 22, 23, 24, 25, 26, 27, 28, 46, 47, 48, 49, 50, 51, 52, 53] 0 (rest := []) (P' := PW cA qx qm zs (.ref (qt 0)) ((upd (upd (upd (upd (upd (upd (upd (upd (upd σ.1 8 rx.2.1) 9 rx.2.2.2.2.2.2.2.2.2.2.2.1) 10 rx.2.2.2.2.2.2.2.2.2.2.2.2.1) 11 rx.2.2.2.2.2.2.2.2.2.2.2.2.2.2.1) 12 rx.2.2.2.2.2.2.2.2.2.2.2.2.2.2.2.1) 13 rx.2.2.2.2.2.2.2.2.2.2.2.2.2.2.2.2.1) 14 rx.2.2.2.2.2.2.2.2.2.2.2.2.2.2.2.2.2.1) 15 rx.2.2.2.2.2.2.2.2.2.2.2.2.2.2.2.2.2.2.1) 16 rx.2.2.2.2.2.2.2.2.2.2.2.2.2.2.2.2.2.2.2.1), (vp_updL σ.2.1 0 rx.2.2.2.2.2.2.2.2.2.2.2.2.2.2.2.2.2.2.2.2.1), (va_up (va_up (va_up (va_up (va_up (va_up (va_up (va_up (va_up (va_up (va_up (va_up (va_up (va_up (va_up (va_up (va_up σ.2.2.1 11 rx.2.2.1) 12 rx.2.2.2.1) 13 rx.2.2.2.2.1) 14 rx.2.2.2.2.2.1) 15 rx.2.2.2.2.2.2.1) 16 rx.2.2.2.2.2.2.2.1) 17 rx.2.2.2.2.2.2.2.2.1) 18 rx.2.2.2.2.2.2.2.2.2.1) 19 rx.2.2.2.2.2.2.2.2.2.2.1) 20 rx.2.2.2.2.2.2.2.2.2.2.2.2.2.1) 21 rx.2.2.2.2.2.2.2.2.2.2.2.2.2.2.2.2.2.2.2.2.2.1) 22 rx.2.2.2.2.2.2.2.2.2.2.2.2.2.2.2.2.2.2.2.2.2.2.1) 23 rx.2.2.2.2.2.2.2.2.2.2.2.2.2.2.2.2.2.2.2.2.2.2.2.1) 24 rx.2.2.2.2.2.2.2.2.2.2.2.2.2.2.2.2.2.2.2.2.2.2.2.2.1) 25 rx.2.2.2.2.2.2.2.2.2.2.2.2.2.2.2.2.2.2.2.2.2.2.2.2.2.1) 26 rx.2.2.2.2.2.2.2.2.2.2.2.2.2.2.2.2.2.2.2.2.2.2.2.2.2.2.1) 27 rx.2.2.2.2.2.2.2.2.2.2.2.2.2.2.2.2.2.2.2.2.2.2.2.2.2.2.2), σ.2.2.2.1, σ.2.2.2.2) μ ++ TW cA qx qt ((upd (upd (upd (upd (upd (upd (upd (upd (upd σ.1 8 rx.2.1) 9 rx.2.2.2.2.2.2.2.2.2.2.2.1) 10 rx.2.2.2.2.2.2.2.2.2.2.2.2.1) 11 rx.2.2.2.2.2.2.2.2.2.2.2.2.2.2.1) 12 rx.2.2.2.2.2.2.2.2.2.2.2.2.2.2.2.1) 13 rx.2.2.2.2.2.2.2.2.2.2.2.2.2.2.2.2.1) 14 rx.2.2.2.2.2.2.2.2.2.2.2.2.2.2.2.2.2.1) 15 rx.2.2.2.2.2.2.2.2.2.2.2.2.2.2.2.2.2.2.1) 16 rx.2.2.2.2.2.2.2.2.2.2.2.2.2.2.2.2.2.2.2.1), (vp_updL σ.2.1 0 rx.2.2.2.2.2.2.2.2.2.2.2.2.2.2.2.2.2.2.2.2.1), (va_up (va_up (va_up (va_up (va_up (va_up (va_up (va_up (va_up (va_up (va_up (va_up (va_up (va_up (va_up (va_up (va_up σ.2.2.1 11 rx.2.2.1) 12 rx.2.2.2.1) 13 rx.2.2.2.2.1) 14 rx.2.2.2.2.2.1) 15 rx.2.2.2.2.2.2.1) 16 rx.2.2.2.2.2.2.2.1) 17 rx.2.2.2.2.2.2.2.2.1) 18 rx.2.2.2.2.2.2.2.2.2.1) 19 rx.2.2.2.2.2.2.2.2.2.2.1) 20 rx.2.2.2.2.2.2.2.2.2.2.2.2.2.1) 21 rx.2.2.2.2.2.2.2.2.2.2.2.2.2.2.2.2.2.2.2.2.2.1) 22 rx.2.2.2.2.2.2.2.2.2.2.2.2.2.2.2.2.2.2.2.2.2.2.1) 23 rx.2.2.2.2.2.2.2.2.2.2.2.2.2.2.2.2.2.2.2.2.2.2.2.1) 24 rx.2.2.2.2.2.2.2.2.2.2.2.2.2.2.2.2.2.2.2.2.2.2.2.2.1) 25 rx.2.2.2.2.2.2.2.2.2.2.2.2.2.2.2.2.2.2.2.2.2.2.2.2.2.1) 26 rx.2.2.2.2.2.2.2.2.2.2.2.2.2.2.2.2.2.2.2.2.2.2.2.2.2.2.1) 27 rx.2.2.2.2.2.2.2.2.2.2.2.2.2.2.2.2.2.2.2.2.2.2.2.2.2.2.2), σ.2.2.2.1, σ.2.2.2.2)) dL_law_881 (c_X8_choice (x_l X) cA (qx 0) (qx 5) (qx 15) zs (qx 1) (σ.1 0) (σ.1 1) (qx 2) (σ.2.2.1 0) (qx 3) (σ.2.2.1 1) (qx 4) (σ.2.2.1 2) (qx 7) (σ.1 4) (qx 8) (σ.2.2.1 4) (qx 9) (σ.2.2.1 5) (qx 10) (σ.1 5) (qx 11) (σ.2.2.1 6) (qx 12) (σ.2.2.1 7) (qx 13) (σ.2.2.1 8) (qx 14) (σ.2.2.1 9) (qx 17) (σ.1 8) (qx 18) (σ.2.2.1 11) (qx 19) (σ.2.2.1 12) (qx 20) (σ.2.2.1 13) (qx 21) (σ.2.2.1 14) (qx 22) (σ.2.2.1 15) (qx 23) (σ.2.2.1 16) (qx 24) (σ.2.2.1 17) (qx 25) (σ.2.2.1 18) (qx 26) (σ.2.2.1 19) (qx 27) (σ.1 9) (σ.1 10) (qx 28) (σ.2.2.1 20) (qt 0) (σ.1 11) (σ.1 12) (σ.1 13) (σ.1 14) (σ.1 15) (σ.1 16) (σ.2.1 0) (qt 1) (σ.2.2.1 21) (qt 2) (σ.2.2.1 22) (qt 3) (σ.2.2.1 23) (qt 4) (σ.2.2.1 24) (qt 5) (σ.2.2.1 25) (qt 6) (σ.2.2.1 26) (qt 7) (σ.2.2.1 27) (0 : Int32) (xs (5 * j + 2)) rx hrx) kw_803 kw_804 kw_805 kw_6 kw_806 ok_X8_choice ⟨by decide, by decide⟩ ⟨by omega, by omega⟩ ⟨rfl, rfl⟩ rfl rfl rfl rfl rfl (Nat.le_of_ble_eq_true rfl) rfl (N0 := 54) rfl [some 0, some 1, some 2, some 3, some 4, none, none, some 5, some 6, some 7, some 8, some 9, some 10, some 11, some 12, none, none, some 13, some 14, some 15, some 16, some 17, some 18, some 19, some 20, some 21, some 22, some 23, some 24, none, none, none, none, none, none, none, none, none, none, none, none, none, none, none, none, none, some 25, some 26, some 27, some 28, some 29, some 30, some 31, some 32] (by decide) rfl rfl ?_
    refine g_perm perm3.symm ?_
    exact K zs (.ref (qt 0)) SS _ kk nn hs (Or.inr ⟨qt, rfl, rfl⟩) (by omega) (by omega)

set_option maxRecDepth 100000 in
set_option maxHeartbeats 2000000 in
theorem op_28_0 {X : XT} {cA : Nat → ClassId} {b L : Nat} {xs : Nat → Int32} (C : Cx X cL_law RL (some .boolean) cA 2048 84000 4) (E : Sx X b L xs) (hL : L < 2 ^ 31) (qx qm : Nat → Nat) (j : Nat) (hj : 5 * j + 5 ≤ L) (zs zt : Value) (SS TT : va_W) (kk nn : Nat) (hk : kk + 50 ≤ (x_R X).cells ∧ nn + 8000 ≤ (x_R X).slots) (σ σ' : XS) (μ μ' : MS) (hs : HS cA σ zs SS) (ht : HT cA qx σ zt TT) (hb : xs (5 * j + 1) = 0) (v w : Int32) (hx : sx_choice (0 : Int32) (xs (5 * j + 2)) σ = some (v, σ')) (hm : sm_choice (0 : Int32) (xs (5 * j + 2)) μ = some (w, μ')) (K : ∀ (zs' zt' : Value) (SS' TT' : va_W) (kk' nn' : Nat), HS cA σ' zs' SS' → HT cA qx σ' zt' TT' → kk' ≤ kk + 50 → nn' ≤ nn + 8000 → Go X 4 kk' nn' 1030 (PW cA qx qm zs' zt' σ' μ' ++ (SS' ++ TT')) [(0, .ref b), (1, .ref (qx 0)), (2, .ref (qm 0)), (3, .int (nI (5 * j)))] []) : Go X 4 kk nn 862 (PW cA qx qm zs zt σ μ ++ (SS ++ TT)) [(0, .ref b), (1, .ref (qx 0)), (2, .ref (qm 0)), (3, .int (nI (5 * j)))] [] := by
  unfold sm_choice at hm
  obtain ⟨rm, hrm, hm⟩ := cal_some hm
  obtain ⟨e3, e4⟩ := some_pair hm
  subst e3
  subst e4
  refine g_aload_n C 862 1 dL_law_862 rfl rfl ?_
  refine g_aload_n C 863 0 dL_law_863 rfl rfl ?_
  refine g_iload_n C 864 3 dL_law_864 rfl rfl ?_
  refine g_iconst C 865 (1 : Int32) dL_law_865 (by decide) ?_
  refine g_iadd C 866 dL_law_866 ?_
  refine g_sld C 867 E (5 * j + 1) dL_law_867 (nI_add (5 * j) 1) (by omega) hL ?_
  refine g_if_eq C 868 875 dL_law_868 (by decide) (if_pos hb : (if (xs (5 * j + 1)) = 0 then some () else none) = some ()) (fun _ => ?_) (fun h => by cases h)
  refine g_iconst C 875 (0 : Int32) dL_law_875 (by decide) ?_
  refine g_aload_n C 876 0 dL_law_876 rfl rfl ?_
  refine g_iload_n C 877 3 dL_law_877 rfl rfl ?_
  refine g_iconst C 878 (2 : Int32) dL_law_878 (by decide) ?_
  refine g_iadd C 879 dL_law_879 ?_
  refine g_sld C 880 E (5 * j + 2) dL_law_880 (nI_add (5 * j) 2) (by omega) hL ?_
  refine xc_op_28_0 C E hL qx qm j hj zs zt SS TT kk nn hk σ σ' μ hs ht v hx ?_
  intro zs' zt' SS' TT' kk' nn' hs2 ht2 hk1 hn1
  have hk2 : kk' ≤ (x_R X).cells ∧ nn' ≤ (x_R X).slots := ⟨by omega, by omega⟩
  refine g_pop C 884 dL_law_884 rfl ?_
  refine g_aload_n C 885 2 dL_law_885 rfl rfl ?_
  refine g_aload_n C 886 0 dL_law_886 rfl rfl ?_
  refine g_iload_n C 887 3 dL_law_887 rfl rfl ?_
  refine g_iconst C 888 (1 : Int32) dL_law_888 (by decide) ?_
  refine g_iadd C 889 dL_law_889 ?_
  refine g_sld C 890 E (5 * j + 1) dL_law_890 (nI_add (5 * j) 1) (by omega) hL ?_
  refine g_if_eq C 891 898 dL_law_891 (by decide) (if_pos hb : (if (xs (5 * j + 1)) = 0 then some () else none) = some ()) (fun _ => ?_) (fun h => by cases h)
  refine g_iconst C 898 (0 : Int32) dL_law_898 (by decide) ?_
  refine g_aload_n C 899 0 dL_law_899 rfl rfl ?_
  refine g_iload_n C 900 3 dL_law_900 rfl rfl ?_
  refine g_iconst C 901 (2 : Int32) dL_law_901 (by decide) ?_
  refine g_iadd C 902 dL_law_902 ?_
  refine g_sld C 903 E (5 * j + 2) dL_law_903 (nI_add (5 * j) 2) (by omega) hL ?_
  refine g_callB C 904 (P := PW cA qx qm zs' zt' σ' μ) [29, 30, 31, 32, 34, 35, 37, 38, 39, 40, 41, 42, 43, 44, 45] 29 (rest := []) (P' := PW cA qx qm zs' zt' σ' (μ.1, (vp_updL (vp_updL (vp_updL μ.2.1 0 rm.2.1) 1 rm.2.2.1) 2 rm.2.2.2.1), (va_up (va_up μ.2.2.1 11 rm.2.2.2.2.1) 12 rm.2.2.2.2.2.1), (va_up (va_up (va_up μ.2.2.2 0 rm.2.2.2.2.2.2.1) 1 rm.2.2.2.2.2.2.2.1) 2 rm.2.2.2.2.2.2.2.2))) dL_law_904 (c_X9_choice (x_l X) cA (qm 0) (μ.1 0) (μ.1 1) (qm 4) (μ.1 2) (qm 7) (μ.1 3) (μ.2.1 0) (μ.2.1 1) (μ.2.1 2) (qm 1) (μ.2.2.1 0) (qm 2) (μ.2.2.1 1) (qm 3) (μ.2.2.1 2) (qm 5) (μ.2.2.1 4) (qm 6) (μ.2.2.1 5) (qm 8) (μ.2.2.1 7) (qm 9) (μ.2.2.1 8) (qm 10) (μ.2.2.1 9) (qm 11) (μ.2.2.1 10) (qm 12) (μ.2.2.1 11) (qm 13) (μ.2.2.1 12) (qm 14) (μ.2.2.2 0) (qm 15) (μ.2.2.2 1) (qm 16) (μ.2.2.2 2) (0 : Int32) (xs (5 * j + 2)) rm hrm) kw_799 kw_800 kw_801 kw_343 kw_802 ok_X9_choice ⟨by decide, by decide⟩ hk2 ⟨rfl, rfl⟩ rfl rfl rfl rfl rfl (Nat.le_of_ble_eq_true rfl) rfl (N0 := 46) rfl [none, none, none, none, none, none, none, none, none, none, none, none, none, none, none, none, none, none, none, none, none, none, none, none, none, none, none, none, none, some 0, some 1, some 2, some 3, none, some 4, some 5, none, some 6, some 7, some 8, some 9, some 10, some 11, some 12, some 13, some 14] (by decide) rfl (st' := [.int rm.1]) rfl ?_
  refine g_pop C 907 dL_law_907 rfl ?_
  refine g_goto C 908 1030 dL_law_908 (by decide) ?_
  exact K zs' zt' SS' TT' kk' nn' hs2 ht2 hk1 hn1

set_option maxRecDepth 100000 in
set_option maxHeartbeats 2000000 in
theorem xc_op_28_1 {X : XT} {cA : Nat → ClassId} {b L : Nat} {xs : Nat → Int32} (C : Cx X cL_law RL (some .boolean) cA 2048 84000 4) (E : Sx X b L xs) (hL : L < 2 ^ 31) (qx qm : Nat → Nat) (j : Nat) (hj : 5 * j + 5 ≤ L) (zs zt : Value) (SS TT : va_W) (kk nn : Nat) (hk : kk + 50 ≤ (x_R X).cells ∧ nn + 8000 ≤ (x_R X).slots) (σ σ' : XS) (μ : MS) (hs : HS cA σ zs SS) (ht : HT cA qx σ zt TT) (v : Int32) (hx : sx_choice (1 : Int32) (xs (5 * j + 2)) σ = some (v, σ')) (K : ∀ (zs' zt' : Value) (SS' TT' : va_W) (kk' nn' : Nat), HS cA σ' zs' SS' → HT cA qx σ' zt' TT' → kk' ≤ kk + 50 → nn' ≤ nn + 8000 → Go X 4 kk' nn' 884 (PW cA qx qm zs' zt' σ' μ ++ (SS' ++ TT')) [(0, .ref b), (1, .ref (qx 0)), (2, .ref (qm 0)), (3, .int (nI (5 * j)))] [.int v]) : Go X 4 kk nn 881 (PW cA qx qm zs zt σ μ ++ (SS ++ TT)) [(0, .ref b), (1, .ref (qx 0)), (2, .ref (qm 0)), (3, .int (nI (5 * j)))] [.int (xs (5 * j + 2)), .int (1 : Int32), .ref (qx 0)] := by
  unfold sx_choice at hx
  obtain ⟨rx, hrx, hx⟩ := cal_some hx
  obtain ⟨e1, e2⟩ := some_pair hx
  subst e1
  subst e2
  rcases ht with ⟨rfl, rfl, hz⟩ | ⟨qt, rfl, rfl⟩
  · obtain ⟨z0, z1, z2, z3, z4, z5, z6, z7, z8, z9, z10, z11, z12, z13⟩ := id hz
    have hrz := hrx
    simp only [z0, z1, z2, z3, z4, z5, z6, z7, z8, z9, z10, z11, z12, z13] at hrz
    refine g_callNB C 881 (P := PW cA qx qm zs .null σ μ) (S := SS ++ []) [0, 1, 2, 3, 4, 7, 8, 9, 10, 11, 12, 13, 14, 17, 18, 19, 20, 21, 22, 23, 24, 25, 26, 27, 28] 0 (rest := []) (kk + 8) (nn + 7339) dL_law_881 (c_X8_choiceA (x_l X) cA (qx 0) (qx 5) (qx 15) zs (qx 1) (σ.1 0) (σ.1 1) (qx 2) (σ.2.2.1 0) (qx 3) (σ.2.2.1 1) (qx 4) (σ.2.2.1 2) (qx 7) (σ.1 4) (qx 8) (σ.2.2.1 4) (qx 9) (σ.2.2.1 5) (qx 10) (σ.1 5) (qx 11) (σ.2.2.1 6) (qx 12) (σ.2.2.1 7) (qx 13) (σ.2.2.1 8) (qx 14) (σ.2.2.1 9) (qx 17) (σ.1 8) (qx 18) (σ.2.2.1 11) (qx 19) (σ.2.2.1 12) (qx 20) (σ.2.2.1 13) (qx 21) (σ.2.2.1 14) (qx 22) (σ.2.2.1 15) (qx 23) (σ.2.2.1 16) (qx 24) (σ.2.2.1 17) (qx 25) (σ.2.2.1 18) (qx 26) (σ.2.2.1 19) (qx 27) (σ.1 9) (σ.1 10) (qx 28) (σ.2.2.1 20) (1 : Int32) (xs (5 * j + 2)) rx hrz) kw_803 kw_804 kw_805 kw_6 kw_806 ok_X8_choice ⟨by decide, by decide⟩ ⟨by omega, by omega⟩ rfl rfl rfl rfl rfl rfl rfl (Nat.le_of_ble_eq_true rfl) (N0 := 46) rfl [some 0, some 1, some 2, some 3, some 4, none, none, some 5, some 6, some 7, some 8, some 9, some 10, some 11, some 12, none, none, some 13, some 14, some 15, some 16, some 17, some 18, some 19, some 20, some 21, some 22, some 23, some 24, none, none, none, none, none, none, none, none, none, none, none, none, none, none, none, none, none] (by decide) ?_
    intro res wz hB
    rcases hB with ⟨he, rfl, rfl⟩ | ⟨t0, t1, t2, t3, t4, t5, t6, t7, rfl, rfl⟩
    · obtain ⟨v, r2⟩ := rx
      dsimp only at he
      subst he
      refine ⟨_, [], (List.append_nil _).symm, rfl, ?_⟩
      rw [List.append_nil, List.append_nil]
      have h := K zs .null SS [] (kk + 8) (nn + 7339) hs (Or.inl ⟨rfl, rfl, rfl, rfl, rfl, rfl, rfl, rfl, rfl, rfl, rfl, rfl, rfl, rfl, rfl, rfl⟩) (by omega) (by omega)
      rw [List.append_nil] at h
      exact h
    · refine ⟨_, _, rfl, rfl, ?_⟩
      rw [List.append_nil, List.append_assoc]
      exact K zs (.ref t0) SS _ (kk + 8) (nn + 7339) hs (Or.inr ⟨fun i => match i with | 0 => t0 | 1 => t1 | 2 => t2 | 3 => t3 | 4 => t4 | 5 => t5 | 6 => t6 | _ => t7, rfl, rfl⟩) (by omega) (by omega)
  · refine g_perm perm3 ?_
    refine g_callB C 881 (P := PW cA qx qm zs (.ref (qt 0)) σ μ ++ TW cA qx qt σ) [0, 1, 2, 3, 4, 7, 8, 9, 10, 11, 12, 13, 14, 17, 18, 19, 20, 21, 22, 23, 24, 25, 26, 27, 28, 46, 47, 48, 49, 50, 51, 52, 53] 0 (rest := []) (P' := PW cA qx qm zs (.ref (qt 0)) ((upd (upd (upd (upd (upd (upd (upd (upd (upd σ.1 8 rx.2.1) 9 rx.2.2.2.2.2.2.2.2.2.2.2.1) 10 rx.2.2.2.2.2.2.2.2.2.2.2.2.1) 11 rx.2.2.2.2.2.2.2.2.2.2.2.2.2.2.1) 12 rx.2.2.2.2.2.2.2.2.2.2.2.2.2.2.2.1) 13 rx.2.2.2.2.2.2.2.2.2.2.2.2.2.2.2.2.1) 14 rx.2.2.2.2.2.2.2.2.2.2.2.2.2.2.2.2.2.1) 15 rx.2.2.2.2.2.2.2.2.2.2.2.2.2.2.2.2.2.2.1) 16 rx.2.2.2.2.2.2.2.2.2.2.2.2.2.2.2.2.2.2.2.1), (vp_updL σ.2.1 0 rx.2.2.2.2.2.2.2.2.2.2.2.2.2.2.2.2.2.2.2.2.1), (va_up (va_up (va_up (va_up (va_up (va_up (va_up (va_up (va_up (va_up (va_up (va_up (va_up (va_up (va_up (va_up (va_up σ.2.2.1 11 rx.2.2.1) 12 rx.2.2.2.1) 13 rx.2.2.2.2.1) 14 rx.2.2.2.2.2.1) 15 rx.2.2.2.2.2.2.1) 16 rx.2.2.2.2.2.2.2.1) 17 rx.2.2.2.2.2.2.2.2.1) 18 rx.2.2.2.2.2.2.2.2.2.1) 19 rx.2.2.2.2.2.2.2.2.2.2.1) 20 rx.2.2.2.2.2.2.2.2.2.2.2.2.2.1) 21 rx.2.2.2.2.2.2.2.2.2.2.2.2.2.2.2.2.2.2.2.2.2.1) 22 rx.2.2.2.2.2.2.2.2.2.2.2.2.2.2.2.2.2.2.2.2.2.2.1) 23 rx.2.2.2.2.2.2.2.2.2.2.2.2.2.2.2.2.2.2.2.2.2.2.2.1) 24 rx.2.2.2.2.2.2.2.2.2.2.2.2.2.2.2.2.2.2.2.2.2.2.2.2.1) 25 rx.2.2.2.2.2.2.2.2.2.2.2.2.2.2.2.2.2.2.2.2.2.2.2.2.2.1) 26 rx.2.2.2.2.2.2.2.2.2.2.2.2.2.2.2.2.2.2.2.2.2.2.2.2.2.2.1) 27 rx.2.2.2.2.2.2.2.2.2.2.2.2.2.2.2.2.2.2.2.2.2.2.2.2.2.2.2), σ.2.2.2.1, σ.2.2.2.2) μ ++ TW cA qx qt ((upd (upd (upd (upd (upd (upd (upd (upd (upd σ.1 8 rx.2.1) 9 rx.2.2.2.2.2.2.2.2.2.2.2.1) 10 rx.2.2.2.2.2.2.2.2.2.2.2.2.1) 11 rx.2.2.2.2.2.2.2.2.2.2.2.2.2.2.1) 12 rx.2.2.2.2.2.2.2.2.2.2.2.2.2.2.2.1) 13 rx.2.2.2.2.2.2.2.2.2.2.2.2.2.2.2.2.1) 14 rx.2.2.2.2.2.2.2.2.2.2.2.2.2.2.2.2.2.1) 15 rx.2.2.2.2.2.2.2.2.2.2.2.2.2.2.2.2.2.2.1) 16 rx.2.2.2.2.2.2.2.2.2.2.2.2.2.2.2.2.2.2.2.1), (vp_updL σ.2.1 0 rx.2.2.2.2.2.2.2.2.2.2.2.2.2.2.2.2.2.2.2.2.1), (va_up (va_up (va_up (va_up (va_up (va_up (va_up (va_up (va_up (va_up (va_up (va_up (va_up (va_up (va_up (va_up (va_up σ.2.2.1 11 rx.2.2.1) 12 rx.2.2.2.1) 13 rx.2.2.2.2.1) 14 rx.2.2.2.2.2.1) 15 rx.2.2.2.2.2.2.1) 16 rx.2.2.2.2.2.2.2.1) 17 rx.2.2.2.2.2.2.2.2.1) 18 rx.2.2.2.2.2.2.2.2.2.1) 19 rx.2.2.2.2.2.2.2.2.2.2.1) 20 rx.2.2.2.2.2.2.2.2.2.2.2.2.2.1) 21 rx.2.2.2.2.2.2.2.2.2.2.2.2.2.2.2.2.2.2.2.2.2.1) 22 rx.2.2.2.2.2.2.2.2.2.2.2.2.2.2.2.2.2.2.2.2.2.2.1) 23 rx.2.2.2.2.2.2.2.2.2.2.2.2.2.2.2.2.2.2.2.2.2.2.2.1) 24 rx.2.2.2.2.2.2.2.2.2.2.2.2.2.2.2.2.2.2.2.2.2.2.2.2.1) 25 rx.2.2.2.2.2.2.2.2.2.2.2.2.2.2.2.2.2.2.2.2.2.2.2.2.2.1) 26 rx.2.2.2.2.2.2.2.2.2.2.2.2.2.2.2.2.2.2.2.2.2.2.2.2.2.2.1) 27 rx.2.2.2.2.2.2.2.2.2.2.2.2.2.2.2.2.2.2.2.2.2.2.2.2.2.2.2), σ.2.2.2.1, σ.2.2.2.2)) dL_law_881 (c_X8_choice (x_l X) cA (qx 0) (qx 5) (qx 15) zs (qx 1) (σ.1 0) (σ.1 1) (qx 2) (σ.2.2.1 0) (qx 3) (σ.2.2.1 1) (qx 4) (σ.2.2.1 2) (qx 7) (σ.1 4) (qx 8) (σ.2.2.1 4) (qx 9) (σ.2.2.1 5) (qx 10) (σ.1 5) (qx 11) (σ.2.2.1 6) (qx 12) (σ.2.2.1 7) (qx 13) (σ.2.2.1 8) (qx 14) (σ.2.2.1 9) (qx 17) (σ.1 8) (qx 18) (σ.2.2.1 11) (qx 19) (σ.2.2.1 12) (qx 20) (σ.2.2.1 13) (qx 21) (σ.2.2.1 14) (qx 22) (σ.2.2.1 15) (qx 23) (σ.2.2.1 16) (qx 24) (σ.2.2.1 17) (qx 25) (σ.2.2.1 18) (qx 26) (σ.2.2.1 19) (qx 27) (σ.1 9) (σ.1 10) (qx 28) (σ.2.2.1 20) (qt 0) (σ.1 11) (σ.1 12) (σ.1 13) (σ.1 14) (σ.1 15) (σ.1 16) (σ.2.1 0) (qt 1) (σ.2.2.1 21) (qt 2) (σ.2.2.1 22) (qt 3) (σ.2.2.1 23) (qt 4) (σ.2.2.1 24) (qt 5) (σ.2.2.1 25) (qt 6) (σ.2.2.1 26) (qt 7) (σ.2.2.1 27) (1 : Int32) (xs (5 * j + 2)) rx hrx) kw_803 kw_804 kw_805 kw_6 kw_806 ok_X8_choice ⟨by decide, by decide⟩ ⟨by omega, by omega⟩ ⟨rfl, rfl⟩ rfl rfl rfl rfl rfl (Nat.le_of_ble_eq_true rfl) rfl (N0 := 54) rfl [some 0, some 1, some 2, some 3, some 4, none, none, some 5, some 6, some 7, some 8, some 9, some 10, some 11, some 12, none, none, some 13, some 14, some 15, some 16, some 17, some 18, some 19, some 20, some 21, some 22, some 23, some 24, none, none, none, none, none, none, none, none, none, none, none, none, none, none, none, none, none, some 25, some 26, some 27, some 28, some 29, some 30, some 31, some 32] (by decide) rfl rfl ?_
    refine g_perm perm3.symm ?_
    exact K zs (.ref (qt 0)) SS _ kk nn hs (Or.inr ⟨qt, rfl, rfl⟩) (by omega) (by omega)

set_option maxRecDepth 100000 in
set_option maxHeartbeats 2000000 in
theorem op_28_1 {X : XT} {cA : Nat → ClassId} {b L : Nat} {xs : Nat → Int32} (C : Cx X cL_law RL (some .boolean) cA 2048 84000 4) (E : Sx X b L xs) (hL : L < 2 ^ 31) (qx qm : Nat → Nat) (j : Nat) (hj : 5 * j + 5 ≤ L) (zs zt : Value) (SS TT : va_W) (kk nn : Nat) (hk : kk + 50 ≤ (x_R X).cells ∧ nn + 8000 ≤ (x_R X).slots) (σ σ' : XS) (μ μ' : MS) (hs : HS cA σ zs SS) (ht : HT cA qx σ zt TT) (hb : ¬ xs (5 * j + 1) = 0) (v w : Int32) (hx : sx_choice (1 : Int32) (xs (5 * j + 2)) σ = some (v, σ')) (hm : sm_choice (1 : Int32) (xs (5 * j + 2)) μ = some (w, μ')) (K : ∀ (zs' zt' : Value) (SS' TT' : va_W) (kk' nn' : Nat), HS cA σ' zs' SS' → HT cA qx σ' zt' TT' → kk' ≤ kk + 50 → nn' ≤ nn + 8000 → Go X 4 kk' nn' 1030 (PW cA qx qm zs' zt' σ' μ' ++ (SS' ++ TT')) [(0, .ref b), (1, .ref (qx 0)), (2, .ref (qm 0)), (3, .int (nI (5 * j)))] []) : Go X 4 kk nn 862 (PW cA qx qm zs zt σ μ ++ (SS ++ TT)) [(0, .ref b), (1, .ref (qx 0)), (2, .ref (qm 0)), (3, .int (nI (5 * j)))] [] := by
  unfold sm_choice at hm
  obtain ⟨rm, hrm, hm⟩ := cal_some hm
  obtain ⟨e3, e4⟩ := some_pair hm
  subst e3
  subst e4
  refine g_aload_n C 862 1 dL_law_862 rfl rfl ?_
  refine g_aload_n C 863 0 dL_law_863 rfl rfl ?_
  refine g_iload_n C 864 3 dL_law_864 rfl rfl ?_
  refine g_iconst C 865 (1 : Int32) dL_law_865 (by decide) ?_
  refine g_iadd C 866 dL_law_866 ?_
  refine g_sld C 867 E (5 * j + 1) dL_law_867 (nI_add (5 * j) 1) (by omega) hL ?_
  refine g_if_eq C 868 875 dL_law_868 (by decide) (if_neg hb : (if (xs (5 * j + 1)) = 0 then none else some ()) = some ()) (fun h => by cases h) (fun _ => ?_)
  refine g_iconst C 871 (1 : Int32) dL_law_871 (by decide) ?_
  refine g_goto C 872 876 dL_law_872 (by decide) ?_
  refine g_aload_n C 876 0 dL_law_876 rfl rfl ?_
  refine g_iload_n C 877 3 dL_law_877 rfl rfl ?_
  refine g_iconst C 878 (2 : Int32) dL_law_878 (by decide) ?_
  refine g_iadd C 879 dL_law_879 ?_
  refine g_sld C 880 E (5 * j + 2) dL_law_880 (nI_add (5 * j) 2) (by omega) hL ?_
  refine xc_op_28_1 C E hL qx qm j hj zs zt SS TT kk nn hk σ σ' μ hs ht v hx ?_
  intro zs' zt' SS' TT' kk' nn' hs2 ht2 hk1 hn1
  have hk2 : kk' ≤ (x_R X).cells ∧ nn' ≤ (x_R X).slots := ⟨by omega, by omega⟩
  refine g_pop C 884 dL_law_884 rfl ?_
  refine g_aload_n C 885 2 dL_law_885 rfl rfl ?_
  refine g_aload_n C 886 0 dL_law_886 rfl rfl ?_
  refine g_iload_n C 887 3 dL_law_887 rfl rfl ?_
  refine g_iconst C 888 (1 : Int32) dL_law_888 (by decide) ?_
  refine g_iadd C 889 dL_law_889 ?_
  refine g_sld C 890 E (5 * j + 1) dL_law_890 (nI_add (5 * j) 1) (by omega) hL ?_
  refine g_if_eq C 891 898 dL_law_891 (by decide) (if_neg hb : (if (xs (5 * j + 1)) = 0 then none else some ()) = some ()) (fun h => by cases h) (fun _ => ?_)
  refine g_iconst C 894 (1 : Int32) dL_law_894 (by decide) ?_
  refine g_goto C 895 899 dL_law_895 (by decide) ?_
  refine g_aload_n C 899 0 dL_law_899 rfl rfl ?_
  refine g_iload_n C 900 3 dL_law_900 rfl rfl ?_
  refine g_iconst C 901 (2 : Int32) dL_law_901 (by decide) ?_
  refine g_iadd C 902 dL_law_902 ?_
  refine g_sld C 903 E (5 * j + 2) dL_law_903 (nI_add (5 * j) 2) (by omega) hL ?_
  refine g_callB C 904 (P := PW cA qx qm zs' zt' σ' μ) [29, 30, 31, 32, 34, 35, 37, 38, 39, 40, 41, 42, 43, 44, 45] 29 (rest := []) (P' := PW cA qx qm zs' zt' σ' (μ.1, (vp_updL (vp_updL (vp_updL μ.2.1 0 rm.2.1) 1 rm.2.2.1) 2 rm.2.2.2.1), (va_up (va_up μ.2.2.1 11 rm.2.2.2.2.1) 12 rm.2.2.2.2.2.1), (va_up (va_up (va_up μ.2.2.2 0 rm.2.2.2.2.2.2.1) 1 rm.2.2.2.2.2.2.2.1) 2 rm.2.2.2.2.2.2.2.2))) dL_law_904 (c_X9_choice (x_l X) cA (qm 0) (μ.1 0) (μ.1 1) (qm 4) (μ.1 2) (qm 7) (μ.1 3) (μ.2.1 0) (μ.2.1 1) (μ.2.1 2) (qm 1) (μ.2.2.1 0) (qm 2) (μ.2.2.1 1) (qm 3) (μ.2.2.1 2) (qm 5) (μ.2.2.1 4) (qm 6) (μ.2.2.1 5) (qm 8) (μ.2.2.1 7) (qm 9) (μ.2.2.1 8) (qm 10) (μ.2.2.1 9) (qm 11) (μ.2.2.1 10) (qm 12) (μ.2.2.1 11) (qm 13) (μ.2.2.1 12) (qm 14) (μ.2.2.2 0) (qm 15) (μ.2.2.2 1) (qm 16) (μ.2.2.2 2) (1 : Int32) (xs (5 * j + 2)) rm hrm) kw_799 kw_800 kw_801 kw_343 kw_802 ok_X9_choice ⟨by decide, by decide⟩ hk2 ⟨rfl, rfl⟩ rfl rfl rfl rfl rfl (Nat.le_of_ble_eq_true rfl) rfl (N0 := 46) rfl [none, none, none, none, none, none, none, none, none, none, none, none, none, none, none, none, none, none, none, none, none, none, none, none, none, none, none, none, none, some 0, some 1, some 2, some 3, none, some 4, some 5, none, some 6, some 7, some 8, some 9, some 10, some 11, some 12, some 13, some 14] (by decide) rfl (st' := [.int rm.1]) rfl ?_
  refine g_pop C 907 dL_law_907 rfl ?_
  refine g_goto C 908 1030 dL_law_908 (by decide) ?_
  exact K zs' zt' SS' TT' kk' nn' hs2 ht2 hk1 hn1

set_option maxRecDepth 100000 in
set_option maxHeartbeats 2000000 in
theorem xc_op_29 {X : XT} {cA : Nat → ClassId} {b L : Nat} {xs : Nat → Int32} (C : Cx X cL_law RL (some .boolean) cA 2048 84000 4) (E : Sx X b L xs) (hL : L < 2 ^ 31) (qx qm : Nat → Nat) (j : Nat) (hj : 5 * j + 5 ≤ L) (zs zt : Value) (SS TT : va_W) (kk nn : Nat) (hk : kk + 50 ≤ (x_R X).cells ∧ nn + 8000 ≤ (x_R X).slots) (σ σ' : XS) (μ : MS) (hs : HS cA σ zs SS) (ht : HT cA qx σ zt TT) (v : Int32) (hx : sx_drawn (((xs (5 * j + 1)).toInt64 <<< ((32 : Int32).toInt64 &&& 63)) ||| ((xs (5 * j + 2)).toInt64 &&& (4294967295 : Int64))) (xs (5 * j + 3)) σ = some (v, σ')) (K : ∀ (zs' zt' : Value) (SS' TT' : va_W) (kk' nn' : Nat), HS cA σ' zs' SS' → HT cA qx σ' zt' TT' → kk' ≤ kk + 50 → nn' ≤ nn + 8000 → Go X 4 kk' nn' 940 (PW cA qx qm zs' zt' σ' μ ++ (SS' ++ TT')) [(0, .ref b), (1, .ref (qx 0)), (2, .ref (qm 0)), (3, .int (nI (5 * j)))] [.int v]) : Go X 4 kk nn 937 (PW cA qx qm zs zt σ μ ++ (SS ++ TT)) [(0, .ref b), (1, .ref (qx 0)), (2, .ref (qm 0)), (3, .int (nI (5 * j)))] [.int (xs (5 * j + 3)), .long (((xs (5 * j + 1)).toInt64 <<< ((32 : Int32).toInt64 &&& 63)) ||| ((xs (5 * j + 2)).toInt64 &&& (4294967295 : Int64))), .ref (qx 0)] := by
  unfold sx_drawn at hx
  obtain ⟨rx, hrx, hx⟩ := cal_some hx
  obtain ⟨e1, e2⟩ := some_pair hx
  subst e1
  subst e2
  rcases ht with ⟨rfl, rfl, hz⟩ | ⟨qt, rfl, rfl⟩
  · obtain ⟨z0, z1, z2, z3, z4, z5, z6, z7, z8, z9, z10, z11, z12, z13⟩ := id hz
    have hrz := hrx
    simp only [z0, z1, z2, z3, z4, z5, z6, z7, z8, z9, z10, z11, z12, z13] at hrz
    refine g_callNB C 937 (P := PW cA qx qm zs .null σ μ) (S := SS ++ []) [0, 1, 2, 3, 4, 7, 8, 9, 10, 11, 12, 13, 14, 17, 18, 19, 20, 21, 22, 23, 24, 25, 26, 27, 28] 0 (rest := []) (kk + 8) (nn + 7339) dL_law_937 (c_X8_drawnA (x_l X) cA (qx 0) (qx 5) (qx 15) zs (qx 1) (σ.1 0) (σ.1 1) (qx 2) (σ.2.2.1 0) (qx 3) (σ.2.2.1 1) (qx 4) (σ.2.2.1 2) (qx 7) (σ.1 4) (qx 8) (σ.2.2.1 4) (qx 9) (σ.2.2.1 5) (qx 10) (σ.1 5) (qx 11) (σ.2.2.1 6) (qx 12) (σ.2.2.1 7) (qx 13) (σ.2.2.1 8) (qx 14) (σ.2.2.1 9) (qx 17) (σ.1 8) (qx 18) (σ.2.2.1 11) (qx 19) (σ.2.2.1 12) (qx 20) (σ.2.2.1 13) (qx 21) (σ.2.2.1 14) (qx 22) (σ.2.2.1 15) (qx 23) (σ.2.2.1 16) (qx 24) (σ.2.2.1 17) (qx 25) (σ.2.2.1 18) (qx 26) (σ.2.2.1 19) (qx 27) (σ.1 9) (σ.1 10) (qx 28) (σ.2.2.1 20) (((xs (5 * j + 1)).toInt64 <<< ((32 : Int32).toInt64 &&& 63)) ||| ((xs (5 * j + 2)).toInt64 &&& (4294967295 : Int64))) (xs (5 * j + 3)) rx hrz) kw_812 kw_813 kw_814 kw_6 kw_815 ok_X8_drawn ⟨by decide, by decide⟩ ⟨by omega, by omega⟩ rfl rfl rfl rfl rfl rfl rfl (Nat.le_of_ble_eq_true rfl) (N0 := 46) rfl [some 0, some 1, some 2, some 3, some 4, none, none, some 5, some 6, some 7, some 8, some 9, some 10, some 11, some 12, none, none, some 13, some 14, some 15, some 16, some 17, some 18, some 19, some 20, some 21, some 22, some 23, some 24, none, none, none, none, none, none, none, none, none, none, none, none, none, none, none, none, none] (by decide) ?_
    intro res wz hB
    rcases hB with ⟨he, rfl, rfl⟩ | ⟨t0, t1, t2, t3, t4, t5, t6, t7, rfl, rfl⟩
    · obtain ⟨v, r2⟩ := rx
      dsimp only at he
      subst he
      refine ⟨_, [], (List.append_nil _).symm, rfl, ?_⟩
      rw [List.append_nil, List.append_nil]
      have h := K zs .null SS [] (kk + 8) (nn + 7339) hs (Or.inl ⟨rfl, rfl, rfl, rfl, rfl, rfl, rfl, rfl, rfl, rfl, rfl, rfl, rfl, rfl, rfl, rfl⟩) (by omega) (by omega)
      rw [List.append_nil] at h
      exact h
    · refine ⟨_, _, rfl, rfl, ?_⟩
      rw [List.append_nil, List.append_assoc]
      exact K zs (.ref t0) SS _ (kk + 8) (nn + 7339) hs (Or.inr ⟨fun i => match i with | 0 => t0 | 1 => t1 | 2 => t2 | 3 => t3 | 4 => t4 | 5 => t5 | 6 => t6 | _ => t7, rfl, rfl⟩) (by omega) (by omega)
  · refine g_perm perm3 ?_
    refine g_callB C 937 (P := PW cA qx qm zs (.ref (qt 0)) σ μ ++ TW cA qx qt σ) [0, 1, 2, 3, 4, 7, 8, 9, 10, 11, 12, 13, 14, 17, 18, 19, 20, 21, 22, 23, 24, 25, 26, 27, 28, 46, 47, 48, 49, 50, 51, 52, 53] 0 (rest := []) (P' := PW cA qx qm zs (.ref (qt 0)) ((upd (upd (upd (upd (upd (upd (upd (upd (upd σ.1 8 rx.2.1) 9 rx.2.2.2.2.2.2.2.2.2.2.2.1) 10 rx.2.2.2.2.2.2.2.2.2.2.2.2.1) 11 rx.2.2.2.2.2.2.2.2.2.2.2.2.2.2.1) 12 rx.2.2.2.2.2.2.2.2.2.2.2.2.2.2.2.1) 13 rx.2.2.2.2.2.2.2.2.2.2.2.2.2.2.2.2.1) 14 rx.2.2.2.2.2.2.2.2.2.2.2.2.2.2.2.2.2.1) 15 rx.2.2.2.2.2.2.2.2.2.2.2.2.2.2.2.2.2.2.1) 16 rx.2.2.2.2.2.2.2.2.2.2.2.2.2.2.2.2.2.2.2.1), (vp_updL σ.2.1 0 rx.2.2.2.2.2.2.2.2.2.2.2.2.2.2.2.2.2.2.2.2.1), (va_up (va_up (va_up (va_up (va_up (va_up (va_up (va_up (va_up (va_up (va_up (va_up (va_up (va_up (va_up (va_up (va_up σ.2.2.1 11 rx.2.2.1) 12 rx.2.2.2.1) 13 rx.2.2.2.2.1) 14 rx.2.2.2.2.2.1) 15 rx.2.2.2.2.2.2.1) 16 rx.2.2.2.2.2.2.2.1) 17 rx.2.2.2.2.2.2.2.2.1) 18 rx.2.2.2.2.2.2.2.2.2.1) 19 rx.2.2.2.2.2.2.2.2.2.2.1) 20 rx.2.2.2.2.2.2.2.2.2.2.2.2.2.1) 21 rx.2.2.2.2.2.2.2.2.2.2.2.2.2.2.2.2.2.2.2.2.2.1) 22 rx.2.2.2.2.2.2.2.2.2.2.2.2.2.2.2.2.2.2.2.2.2.2.1) 23 rx.2.2.2.2.2.2.2.2.2.2.2.2.2.2.2.2.2.2.2.2.2.2.2.1) 24 rx.2.2.2.2.2.2.2.2.2.2.2.2.2.2.2.2.2.2.2.2.2.2.2.2.1) 25 rx.2.2.2.2.2.2.2.2.2.2.2.2.2.2.2.2.2.2.2.2.2.2.2.2.2.1) 26 rx.2.2.2.2.2.2.2.2.2.2.2.2.2.2.2.2.2.2.2.2.2.2.2.2.2.2.1) 27 rx.2.2.2.2.2.2.2.2.2.2.2.2.2.2.2.2.2.2.2.2.2.2.2.2.2.2.2), σ.2.2.2.1, σ.2.2.2.2) μ ++ TW cA qx qt ((upd (upd (upd (upd (upd (upd (upd (upd (upd σ.1 8 rx.2.1) 9 rx.2.2.2.2.2.2.2.2.2.2.2.1) 10 rx.2.2.2.2.2.2.2.2.2.2.2.2.1) 11 rx.2.2.2.2.2.2.2.2.2.2.2.2.2.2.1) 12 rx.2.2.2.2.2.2.2.2.2.2.2.2.2.2.2.1) 13 rx.2.2.2.2.2.2.2.2.2.2.2.2.2.2.2.2.1) 14 rx.2.2.2.2.2.2.2.2.2.2.2.2.2.2.2.2.2.1) 15 rx.2.2.2.2.2.2.2.2.2.2.2.2.2.2.2.2.2.2.1) 16 rx.2.2.2.2.2.2.2.2.2.2.2.2.2.2.2.2.2.2.2.1), (vp_updL σ.2.1 0 rx.2.2.2.2.2.2.2.2.2.2.2.2.2.2.2.2.2.2.2.2.1), (va_up (va_up (va_up (va_up (va_up (va_up (va_up (va_up (va_up (va_up (va_up (va_up (va_up (va_up (va_up (va_up (va_up σ.2.2.1 11 rx.2.2.1) 12 rx.2.2.2.1) 13 rx.2.2.2.2.1) 14 rx.2.2.2.2.2.1) 15 rx.2.2.2.2.2.2.1) 16 rx.2.2.2.2.2.2.2.1) 17 rx.2.2.2.2.2.2.2.2.1) 18 rx.2.2.2.2.2.2.2.2.2.1) 19 rx.2.2.2.2.2.2.2.2.2.2.1) 20 rx.2.2.2.2.2.2.2.2.2.2.2.2.2.1) 21 rx.2.2.2.2.2.2.2.2.2.2.2.2.2.2.2.2.2.2.2.2.2.1) 22 rx.2.2.2.2.2.2.2.2.2.2.2.2.2.2.2.2.2.2.2.2.2.2.1) 23 rx.2.2.2.2.2.2.2.2.2.2.2.2.2.2.2.2.2.2.2.2.2.2.2.1) 24 rx.2.2.2.2.2.2.2.2.2.2.2.2.2.2.2.2.2.2.2.2.2.2.2.2.1) 25 rx.2.2.2.2.2.2.2.2.2.2.2.2.2.2.2.2.2.2.2.2.2.2.2.2.2.1) 26 rx.2.2.2.2.2.2.2.2.2.2.2.2.2.2.2.2.2.2.2.2.2.2.2.2.2.2.1) 27 rx.2.2.2.2.2.2.2.2.2.2.2.2.2.2.2.2.2.2.2.2.2.2.2.2.2.2.2), σ.2.2.2.1, σ.2.2.2.2)) dL_law_937 (c_X8_drawn (x_l X) cA (qx 0) (qx 5) (qx 15) zs (qx 1) (σ.1 0) (σ.1 1) (qx 2) (σ.2.2.1 0) (qx 3) (σ.2.2.1 1) (qx 4) (σ.2.2.1 2) (qx 7) (σ.1 4) (qx 8) (σ.2.2.1 4) (qx 9) (σ.2.2.1 5) (qx 10) (σ.1 5) (qx 11) (σ.2.2.1 6) (qx 12) (σ.2.2.1 7) (qx 13) (σ.2.2.1 8) (qx 14) (σ.2.2.1 9) (qx 17) (σ.1 8) (qx 18) (σ.2.2.1 11) (qx 19) (σ.2.2.1 12) (qx 20) (σ.2.2.1 13) (qx 21) (σ.2.2.1 14) (qx 22) (σ.2.2.1 15) (qx 23) (σ.2.2.1 16) (qx 24) (σ.2.2.1 17) (qx 25) (σ.2.2.1 18) (qx 26) (σ.2.2.1 19) (qx 27) (σ.1 9) (σ.1 10) (qx 28) (σ.2.2.1 20) (qt 0) (σ.1 11) (σ.1 12) (σ.1 13) (σ.1 14) (σ.1 15) (σ.1 16) (σ.2.1 0) (qt 1) (σ.2.2.1 21) (qt 2) (σ.2.2.1 22) (qt 3) (σ.2.2.1 23) (qt 4) (σ.2.2.1 24) (qt 5) (σ.2.2.1 25) (qt 6) (σ.2.2.1 26) (qt 7) (σ.2.2.1 27) (((xs (5 * j + 1)).toInt64 <<< ((32 : Int32).toInt64 &&& 63)) ||| ((xs (5 * j + 2)).toInt64 &&& (4294967295 : Int64))) (xs (5 * j + 3)) rx hrx) kw_812 kw_813 kw_814 kw_6 kw_815 ok_X8_drawn ⟨by decide, by decide⟩ ⟨by omega, by omega⟩ ⟨rfl, rfl⟩ rfl rfl rfl rfl rfl (Nat.le_of_ble_eq_true rfl) rfl (N0 := 54) rfl [some 0, some 1, some 2, some 3, some 4, none, none, some 5, some 6, some 7, some 8, some 9, some 10, some 11, some 12, none, none, some 13, some 14, some 15, some 16, some 17, some 18, some 19, some 20, some 21, some 22, some 23, some 24, none, none, none, none, none, none, none, none, none, none, none, none, none, none, none, none, none, some 25, some 26, some 27, some 28, some 29, some 30, some 31, some 32] (by decide) rfl rfl ?_
    refine g_perm perm3.symm ?_
    exact K zs (.ref (qt 0)) SS _ kk nn hs (Or.inr ⟨qt, rfl, rfl⟩) (by omega) (by omega)

set_option maxRecDepth 100000 in
set_option maxHeartbeats 2000000 in
theorem op_29 {X : XT} {cA : Nat → ClassId} {b L : Nat} {xs : Nat → Int32} (C : Cx X cL_law RL (some .boolean) cA 2048 84000 4) (E : Sx X b L xs) (hL : L < 2 ^ 31) (qx qm : Nat → Nat) (j : Nat) (hj : 5 * j + 5 ≤ L) (zs zt : Value) (SS TT : va_W) (kk nn : Nat) (hk : kk + 50 ≤ (x_R X).cells ∧ nn + 8000 ≤ (x_R X).slots) (σ σ' : XS) (μ μ' : MS) (hs : HS cA σ zs SS) (ht : HT cA qx σ zt TT) (v w : Int32) (hx : sx_drawn (((xs (5 * j + 1)).toInt64 <<< ((32 : Int32).toInt64 &&& 63)) ||| ((xs (5 * j + 2)).toInt64 &&& (4294967295 : Int64))) (xs (5 * j + 3)) σ = some (v, σ')) (hm : sm_drawn (((xs (5 * j + 1)).toInt64 <<< ((32 : Int32).toInt64 &&& 63)) ||| ((xs (5 * j + 2)).toInt64 &&& (4294967295 : Int64))) (xs (5 * j + 3)) μ = some (w, μ')) (K : ∀ (zs' zt' : Value) (SS' TT' : va_W) (kk' nn' : Nat), HS cA σ' zs' SS' → HT cA qx σ' zt' TT' → kk' ≤ kk + 50 → nn' ≤ nn + 8000 → Go X 4 kk' nn' 1030 (PW cA qx qm zs' zt' σ' μ' ++ (SS' ++ TT')) [(0, .ref b), (1, .ref (qx 0)), (2, .ref (qm 0)), (3, .int (nI (5 * j)))] []) : Go X 4 kk nn 911 (PW cA qx qm zs zt σ μ ++ (SS ++ TT)) [(0, .ref b), (1, .ref (qx 0)), (2, .ref (qm 0)), (3, .int (nI (5 * j)))] [] := by
  unfold sm_drawn at hm
  obtain ⟨rm, hrm, hm⟩ := cal_some hm
  obtain ⟨e3, e4⟩ := some_pair hm
  subst e3
  subst e4
  refine g_aload_n C 911 1 dL_law_911 rfl rfl ?_
  refine g_aload_n C 912 0 dL_law_912 rfl rfl ?_
  refine g_iload_n C 913 3 dL_law_913 rfl rfl ?_
  refine g_iconst C 914 (1 : Int32) dL_law_914 (by decide) ?_
  refine g_iadd C 915 dL_law_915 ?_
  refine g_sld C 916 E (5 * j + 1) dL_law_916 (nI_add (5 * j) 1) (by omega) hL ?_
  refine g_i2l C 917 dL_law_917 ?_
  refine g_bipush C 918 (32 : Int32) dL_law_918 (by decide) ?_
  refine g_lshl C 920 dL_law_920 ?_
  refine g_aload_n C 921 0 dL_law_921 rfl rfl ?_
  refine g_iload_n C 922 3 dL_law_922 rfl rfl ?_
  refine g_iconst C 923 (2 : Int32) dL_law_923 (by decide) ?_
  refine g_iadd C 924 dL_law_924 ?_
  refine g_sld C 925 E (5 * j + 2) dL_law_925 (nI_add (5 * j) 2) (by omega) hL ?_
  refine g_i2l C 926 dL_law_926 ?_
  refine g_ldc2 C 927 dL_law_927 kw_807 ?_
  refine g_land C 930 dL_law_930 ?_
  refine g_lor C 931 dL_law_931 ?_
  refine g_aload_n C 932 0 dL_law_932 rfl rfl ?_
  refine g_iload_n C 933 3 dL_law_933 rfl rfl ?_
  refine g_iconst C 934 (3 : Int32) dL_law_934 (by decide) ?_
  refine g_iadd C 935 dL_law_935 ?_
  refine g_sld C 936 E (5 * j + 3) dL_law_936 (nI_add (5 * j) 3) (by omega) hL ?_
  refine xc_op_29 C E hL qx qm j hj zs zt SS TT kk nn hk σ σ' μ hs ht v hx ?_
  intro zs' zt' SS' TT' kk' nn' hs2 ht2 hk1 hn1
  have hk2 : kk' ≤ (x_R X).cells ∧ nn' ≤ (x_R X).slots := ⟨by omega, by omega⟩
  refine g_pop C 940 dL_law_940 rfl ?_
  refine g_aload_n C 941 2 dL_law_941 rfl rfl ?_
  refine g_aload_n C 942 0 dL_law_942 rfl rfl ?_
  refine g_iload_n C 943 3 dL_law_943 rfl rfl ?_
  refine g_iconst C 944 (1 : Int32) dL_law_944 (by decide) ?_
  refine g_iadd C 945 dL_law_945 ?_
  refine g_sld C 946 E (5 * j + 1) dL_law_946 (nI_add (5 * j) 1) (by omega) hL ?_
  refine g_i2l C 947 dL_law_947 ?_
  refine g_bipush C 948 (32 : Int32) dL_law_948 (by decide) ?_
  refine g_lshl C 950 dL_law_950 ?_
  refine g_aload_n C 951 0 dL_law_951 rfl rfl ?_
  refine g_iload_n C 952 3 dL_law_952 rfl rfl ?_
  refine g_iconst C 953 (2 : Int32) dL_law_953 (by decide) ?_
  refine g_iadd C 954 dL_law_954 ?_
  refine g_sld C 955 E (5 * j + 2) dL_law_955 (nI_add (5 * j) 2) (by omega) hL ?_
  refine g_i2l C 956 dL_law_956 ?_
  refine g_ldc2 C 957 dL_law_957 kw_807 ?_
  refine g_land C 960 dL_law_960 ?_
  refine g_lor C 961 dL_law_961 ?_
  refine g_aload_n C 962 0 dL_law_962 rfl rfl ?_
  refine g_iload_n C 963 3 dL_law_963 rfl rfl ?_
  refine g_iconst C 964 (3 : Int32) dL_law_964 (by decide) ?_
  refine g_iadd C 965 dL_law_965 ?_
  refine g_sld C 966 E (5 * j + 3) dL_law_966 (nI_add (5 * j) 3) (by omega) hL ?_
  refine g_callB C 967 (P := PW cA qx qm zs' zt' σ' μ) [29, 30, 31, 32, 34, 35, 37, 38, 39, 40, 41, 42, 43, 44, 45] 29 (rest := []) (P' := PW cA qx qm zs' zt' σ' (μ.1, (vp_updL (vp_updL (vp_updL μ.2.1 0 rm.2.1) 1 rm.2.2.1) 2 rm.2.2.2.1), (va_up (va_up μ.2.2.1 11 rm.2.2.2.2.1) 12 rm.2.2.2.2.2.1), (va_up (va_up (va_up μ.2.2.2 0 rm.2.2.2.2.2.2.1) 1 rm.2.2.2.2.2.2.2.1) 2 rm.2.2.2.2.2.2.2.2))) dL_law_967 (c_X9_drawn (x_l X) cA (qm 0) (μ.1 0) (μ.1 1) (qm 4) (μ.1 2) (qm 7) (μ.1 3) (μ.2.1 0) (μ.2.1 1) (μ.2.1 2) (qm 1) (μ.2.2.1 0) (qm 2) (μ.2.2.1 1) (qm 3) (μ.2.2.1 2) (qm 5) (μ.2.2.1 4) (qm 6) (μ.2.2.1 5) (qm 8) (μ.2.2.1 7) (qm 9) (μ.2.2.1 8) (qm 10) (μ.2.2.1 9) (qm 11) (μ.2.2.1 10) (qm 12) (μ.2.2.1 11) (qm 13) (μ.2.2.1 12) (qm 14) (μ.2.2.2 0) (qm 15) (μ.2.2.2 1) (qm 16) (μ.2.2.2 2) (((((xs (5 * j + 1))).toInt64) <<< (((32 : Int32)).toInt64 &&& 63)) ||| ((((xs (5 * j + 2))).toInt64) &&& (4294967295 : Int64))) (xs (5 * j + 3)) rm hrm) kw_808 kw_809 kw_810 kw_343 kw_811 ok_X9_drawn ⟨by decide, by decide⟩ hk2 ⟨rfl, rfl⟩ rfl rfl rfl rfl rfl (Nat.le_of_ble_eq_true rfl) rfl (N0 := 46) rfl [none, none, none, none, none, none, none, none, none, none, none, none, none, none, none, none, none, none, none, none, none, none, none, none, none, none, none, none, none, some 0, some 1, some 2, some 3, none, some 4, some 5, none, some 6, some 7, some 8, some 9, some 10, some 11, some 12, some 13, some 14] (by decide) rfl (st' := [.int rm.1]) rfl ?_
  refine g_pop C 970 dL_law_970 rfl ?_
  refine g_goto C 971 1030 dL_law_971 (by decide) ?_
  exact K zs' zt' SS' TT' kk' nn' hs2 ht2 hk1 hn1

set_option maxRecDepth 100000 in
set_option maxHeartbeats 2000000 in
theorem xc_op_30 {X : XT} {cA : Nat → ClassId} {b L : Nat} {xs : Nat → Int32} (C : Cx X cL_law RL (some .boolean) cA 2048 84000 4) (E : Sx X b L xs) (hL : L < 2 ^ 31) (qx qm : Nat → Nat) (j : Nat) (hj : 5 * j + 5 ≤ L) (zs zt : Value) (SS TT : va_W) (kk nn : Nat) (hk : kk + 50 ≤ (x_R X).cells ∧ nn + 8000 ≤ (x_R X).slots) (σ σ' : XS) (μ : MS) (hs : HS cA σ zs SS) (ht : HT cA qx σ zt TT) (v : Int64) (hx : sx_share (xs (5 * j + 1)) (xs (5 * j + 2)) σ = some (v, σ')) (K : ∀ (zs' zt' : Value) (SS' TT' : va_W) (kk' nn' : Nat), HS cA σ' zs' SS' → HT cA qx σ' zt' TT' → kk' ≤ kk + 50 → nn' ≤ nn + 8000 → Go X 4 kk' nn' 988 (PW cA qx qm zs' zt' σ' μ ++ (SS' ++ TT')) [(0, .ref b), (1, .ref (qx 0)), (2, .ref (qm 0)), (3, .int (nI (5 * j)))] [.long v]) : Go X 4 kk nn 985 (PW cA qx qm zs zt σ μ ++ (SS ++ TT)) [(0, .ref b), (1, .ref (qx 0)), (2, .ref (qm 0)), (3, .int (nI (5 * j)))] [.int (xs (5 * j + 2)), .int (xs (5 * j + 1)), .ref (qx 0)] := by
  unfold sx_share at hx
  obtain ⟨rx, hrx, hx⟩ := cal_some hx
  obtain ⟨e1, e2⟩ := some_pair hx
  subst e1
  subst e2
  rcases ht with ⟨rfl, rfl, hz⟩ | ⟨qt, rfl, rfl⟩
  · obtain ⟨z0, z1, z2, z3, z4, z5, z6, z7, z8, z9, z10, z11, z12, z13⟩ := id hz
    have hrz := hrx
    simp only [z0, z1, z2, z3, z4, z5, z6, z7, z8, z9, z10, z11, z12, z13] at hrz
    refine g_callNB C 985 (P := PW cA qx qm zs .null σ μ) (S := SS ++ []) [0, 1, 2, 3, 4, 7, 8, 9, 10, 11, 12, 13, 14, 17, 18, 19, 20, 21, 22, 23, 24, 25, 26, 27, 28] 0 (rest := []) (kk + 8) (nn + 7339) dL_law_985 (c_X8_shareA (x_l X) cA (qx 0) (qx 5) (qx 15) zs (qx 1) (σ.1 0) (σ.1 1) (qx 2) (σ.2.2.1 0) (qx 3) (σ.2.2.1 1) (qx 4) (σ.2.2.1 2) (qx 7) (σ.1 4) (qx 8) (σ.2.2.1 4) (qx 9) (σ.2.2.1 5) (qx 10) (σ.1 5) (qx 11) (σ.2.2.1 6) (qx 12) (σ.2.2.1 7) (qx 13) (σ.2.2.1 8) (qx 14) (σ.2.2.1 9) (qx 17) (σ.1 8) (qx 18) (σ.2.2.1 11) (qx 19) (σ.2.2.1 12) (qx 20) (σ.2.2.1 13) (qx 21) (σ.2.2.1 14) (qx 22) (σ.2.2.1 15) (qx 23) (σ.2.2.1 16) (qx 24) (σ.2.2.1 17) (qx 25) (σ.2.2.1 18) (qx 26) (σ.2.2.1 19) (qx 27) (σ.1 9) (σ.1 10) (qx 28) (σ.2.2.1 20) (xs (5 * j + 1)) (xs (5 * j + 2)) rx hrz) kw_820 kw_821 kw_822 kw_6 kw_823 ok_X8_share ⟨by decide, by decide⟩ ⟨by omega, by omega⟩ rfl rfl rfl rfl rfl rfl rfl (Nat.le_of_ble_eq_true rfl) (N0 := 46) rfl [some 0, some 1, some 2, some 3, some 4, none, none, some 5, some 6, some 7, some 8, some 9, some 10, some 11, some 12, none, none, some 13, some 14, some 15, some 16, some 17, some 18, some 19, some 20, some 21, some 22, some 23, some 24, none, none, none, none, none, none, none, none, none, none, none, none, none, none, none, none, none] (by decide) ?_
    intro res wz hB
    rcases hB with ⟨he, rfl, rfl⟩ | ⟨t0, t1, t2, t3, t4, t5, t6, t7, rfl, rfl⟩
    · obtain ⟨v, r2⟩ := rx
      dsimp only at he
      subst he
      refine ⟨_, [], (List.append_nil _).symm, rfl, ?_⟩
      rw [List.append_nil, List.append_nil]
      have h := K zs .null SS [] (kk + 8) (nn + 7339) hs (Or.inl ⟨rfl, rfl, rfl, rfl, rfl, rfl, rfl, z5, z6, rfl, rfl, rfl, rfl, rfl, rfl, rfl⟩) (by omega) (by omega)
      rw [List.append_nil] at h
      exact h
    · have e9 : ∀ (n0 : Int32) (n1 : Int64), n0 = 0 → n1 = 0 → ([oB t0 7 [.ref t1, .int rx.2.2.2.2.2.2.2.2.2.2.2.2.2.2.1, .int rx.2.2.2.2.2.2.2.2.2.2.2.2.2.2.2.1, .ref (qx 1), .ref (qx 10), .ref (qx 17), .ref t2, .ref t3, .ref t4, .ref t5, .ref t6, .ref t7, .int rx.2.2.2.2.2.2.2.2.2.2.2.2.2.2.2.2.1, .int rx.2.2.2.2.2.2.2.2.2.2.2.2.2.2.2.2.2.1, .int rx.2.2.2.2.2.2.2.2.2.2.2.2.2.2.2.2.2.2.1, .int 0, .long 0], aI cA t1 14 rx.2.2.2.2.2.2.2.2.2.2.2.2.2.2.2.2.2.2.2.1, aI cA t2 56 rx.2.2.2.2.2.2.2.2.2.2.2.2.2.2.2.2.2.2.2.2.1, aI cA t3 14 rx.2.2.2.2.2.2.2.2.2.2.2.2.2.2.2.2.2.2.2.2.2.1, aI cA t4 14 rx.2.2.2.2.2.2.2.2.2.2.2.2.2.2.2.2.2.2.2.2.2.2.1, aI cA t5 56 rx.2.2.2.2.2.2.2.2.2.2.2.2.2.2.2.2.2.2.2.2.2.2.2.1, aI cA t6 3584 rx.2.2.2.2.2.2.2.2.2.2.2.2.2.2.2.2.2.2.2.2.2.2.2.2.1, aI cA t7 3584 rx.2.2.2.2.2.2.2.2.2.2.2.2.2.2.2.2.2.2.2.2.2.2.2.2.2] : va_W) = [oB t0 7 [.ref t1, .int rx.2.2.2.2.2.2.2.2.2.2.2.2.2.2.1, .int rx.2.2.2.2.2.2.2.2.2.2.2.2.2.2.2.1, .ref (qx 1), .ref (qx 10), .ref (qx 17), .ref t2, .ref t3, .ref t4, .ref t5, .ref t6, .ref t7, .int rx.2.2.2.2.2.2.2.2.2.2.2.2.2.2.2.2.1, .int rx.2.2.2.2.2.2.2.2.2.2.2.2.2.2.2.2.2.1, .int rx.2.2.2.2.2.2.2.2.2.2.2.2.2.2.2.2.2.2.1, .int n0, .long n1], aI cA t1 14 rx.2.2.2.2.2.2.2.2.2.2.2.2.2.2.2.2.2.2.2.1, aI cA t2 56 rx.2.2.2.2.2.2.2.2.2.2.2.2.2.2.2.2.2.2.2.2.1, aI cA t3 14 rx.2.2.2.2.2.2.2.2.2.2.2.2.2.2.2.2.2.2.2.2.2.1, aI cA t4 14 rx.2.2.2.2.2.2.2.2.2.2.2.2.2.2.2.2.2.2.2.2.2.2.1, aI cA t5 56 rx.2.2.2.2.2.2.2.2.2.2.2.2.2.2.2.2.2.2.2.2.2.2.2.1, aI cA t6 3584 rx.2.2.2.2.2.2.2.2.2.2.2.2.2.2.2.2.2.2.2.2.2.2.2.2.1, aI cA t7 3584 rx.2.2.2.2.2.2.2.2.2.2.2.2.2.2.2.2.2.2.2.2.2.2.2.2.2] := by
        intro n0 n1 g0 g1
        subst g0; subst g1
        rfl
      refine ⟨_, _, rfl, rfl, ?_⟩
      rw [List.append_nil, List.append_assoc]
      exact K zs (.ref t0) SS _ (kk + 8) (nn + 7339) hs (Or.inr ⟨fun i => match i with | 0 => t0 | 1 => t1 | 2 => t2 | 3 => t3 | 4 => t4 | 5 => t5 | 6 => t6 | _ => t7, rfl, e9 _ _ z5 z6⟩) (by omega) (by omega)
  · refine g_perm perm3 ?_
    refine g_callB C 985 (P := PW cA qx qm zs (.ref (qt 0)) σ μ ++ TW cA qx qt σ) [0, 1, 2, 3, 4, 7, 8, 9, 10, 11, 12, 13, 14, 17, 18, 19, 20, 21, 22, 23, 24, 25, 26, 27, 28, 46, 47, 48, 49, 50, 51, 52, 53] 0 (rest := []) (P' := PW cA qx qm zs (.ref (qt 0)) ((upd (upd (upd (upd (upd (upd (upd (upd σ.1 8 rx.2.1) 9 rx.2.2.2.2.2.2.2.2.2.2.2.1) 10 rx.2.2.2.2.2.2.2.2.2.2.2.2.1) 11 rx.2.2.2.2.2.2.2.2.2.2.2.2.2.2.1) 12 rx.2.2.2.2.2.2.2.2.2.2.2.2.2.2.2.1) 13 rx.2.2.2.2.2.2.2.2.2.2.2.2.2.2.2.2.1) 14 rx.2.2.2.2.2.2.2.2.2.2.2.2.2.2.2.2.2.1) 15 rx.2.2.2.2.2.2.2.2.2.2.2.2.2.2.2.2.2.2.1), σ.2.1, (va_up (va_up (va_up (va_up (va_up (va_up (va_up (va_up (va_up (va_up (va_up (va_up (va_up (va_up (va_up (va_up (va_up σ.2.2.1 11 rx.2.2.1) 12 rx.2.2.2.1) 13 rx.2.2.2.2.1) 14 rx.2.2.2.2.2.1) 15 rx.2.2.2.2.2.2.1) 16 rx.2.2.2.2.2.2.2.1) 17 rx.2.2.2.2.2.2.2.2.1) 18 rx.2.2.2.2.2.2.2.2.2.1) 19 rx.2.2.2.2.2.2.2.2.2.2.1) 20 rx.2.2.2.2.2.2.2.2.2.2.2.2.2.1) 21 rx.2.2.2.2.2.2.2.2.2.2.2.2.2.2.2.2.2.2.2.1) 22 rx.2.2.2.2.2.2.2.2.2.2.2.2.2.2.2.2.2.2.2.2.1) 23 rx.2.2.2.2.2.2.2.2.2.2.2.2.2.2.2.2.2.2.2.2.2.1) 24 rx.2.2.2.2.2.2.2.2.2.2.2.2.2.2.2.2.2.2.2.2.2.2.1) 25 rx.2.2.2.2.2.2.2.2.2.2.2.2.2.2.2.2.2.2.2.2.2.2.2.1) 26 rx.2.2.2.2.2.2.2.2.2.2.2.2.2.2.2.2.2.2.2.2.2.2.2.2.1) 27 rx.2.2.2.2.2.2.2.2.2.2.2.2.2.2.2.2.2.2.2.2.2.2.2.2.2), σ.2.2.2.1, σ.2.2.2.2) μ ++ TW cA qx qt ((upd (upd (upd (upd (upd (upd (upd (upd σ.1 8 rx.2.1) 9 rx.2.2.2.2.2.2.2.2.2.2.2.1) 10 rx.2.2.2.2.2.2.2.2.2.2.2.2.1) 11 rx.2.2.2.2.2.2.2.2.2.2.2.2.2.2.1) 12 rx.2.2.2.2.2.2.2.2.2.2.2.2.2.2.2.1) 13 rx.2.2.2.2.2.2.2.2.2.2.2.2.2.2.2.2.1) 14 rx.2.2.2.2.2.2.2.2.2.2.2.2.2.2.2.2.2.1) 15 rx.2.2.2.2.2.2.2.2.2.2.2.2.2.2.2.2.2.2.1), σ.2.1, (va_up (va_up (va_up (va_up (va_up (va_up (va_up (va_up (va_up (va_up (va_up (va_up (va_up (va_up (va_up (va_up (va_up σ.2.2.1 11 rx.2.2.1) 12 rx.2.2.2.1) 13 rx.2.2.2.2.1) 14 rx.2.2.2.2.2.1) 15 rx.2.2.2.2.2.2.1) 16 rx.2.2.2.2.2.2.2.1) 17 rx.2.2.2.2.2.2.2.2.1) 18 rx.2.2.2.2.2.2.2.2.2.1) 19 rx.2.2.2.2.2.2.2.2.2.2.1) 20 rx.2.2.2.2.2.2.2.2.2.2.2.2.2.1) 21 rx.2.2.2.2.2.2.2.2.2.2.2.2.2.2.2.2.2.2.2.1) 22 rx.2.2.2.2.2.2.2.2.2.2.2.2.2.2.2.2.2.2.2.2.1) 23 rx.2.2.2.2.2.2.2.2.2.2.2.2.2.2.2.2.2.2.2.2.2.1) 24 rx.2.2.2.2.2.2.2.2.2.2.2.2.2.2.2.2.2.2.2.2.2.2.1) 25 rx.2.2.2.2.2.2.2.2.2.2.2.2.2.2.2.2.2.2.2.2.2.2.2.1) 26 rx.2.2.2.2.2.2.2.2.2.2.2.2.2.2.2.2.2.2.2.2.2.2.2.2.1) 27 rx.2.2.2.2.2.2.2.2.2.2.2.2.2.2.2.2.2.2.2.2.2.2.2.2.2), σ.2.2.2.1, σ.2.2.2.2)) dL_law_985 (c_X8_share (x_l X) cA (qx 0) (qx 5) (qx 15) zs (qx 1) (σ.1 0) (σ.1 1) (qx 2) (σ.2.2.1 0) (qx 3) (σ.2.2.1 1) (qx 4) (σ.2.2.1 2) (qx 7) (σ.1 4) (qx 8) (σ.2.2.1 4) (qx 9) (σ.2.2.1 5) (qx 10) (σ.1 5) (qx 11) (σ.2.2.1 6) (qx 12) (σ.2.2.1 7) (qx 13) (σ.2.2.1 8) (qx 14) (σ.2.2.1 9) (qx 17) (σ.1 8) (qx 18) (σ.2.2.1 11) (qx 19) (σ.2.2.1 12) (qx 20) (σ.2.2.1 13) (qx 21) (σ.2.2.1 14) (qx 22) (σ.2.2.1 15) (qx 23) (σ.2.2.1 16) (qx 24) (σ.2.2.1 17) (qx 25) (σ.2.2.1 18) (qx 26) (σ.2.2.1 19) (qx 27) (σ.1 9) (σ.1 10) (qx 28) (σ.2.2.1 20) (qt 0) (σ.1 11) (σ.1 12) (σ.1 13) (σ.1 14) (σ.1 15) (σ.1 16) (σ.2.1 0) (qt 1) (σ.2.2.1 21) (qt 2) (σ.2.2.1 22) (qt 3) (σ.2.2.1 23) (qt 4) (σ.2.2.1 24) (qt 5) (σ.2.2.1 25) (qt 6) (σ.2.2.1 26) (qt 7) (σ.2.2.1 27) (xs (5 * j + 1)) (xs (5 * j + 2)) rx hrx) kw_820 kw_821 kw_822 kw_6 kw_823 ok_X8_share ⟨by decide, by decide⟩ ⟨by omega, by omega⟩ ⟨rfl, rfl⟩ rfl rfl rfl rfl rfl (Nat.le_of_ble_eq_true rfl) rfl (N0 := 54) rfl [some 0, some 1, some 2, some 3, some 4, none, none, some 5, some 6, some 7, some 8, some 9, some 10, some 11, some 12, none, none, some 13, some 14, some 15, some 16, some 17, some 18, some 19, some 20, some 21, some 22, some 23, some 24, none, none, none, none, none, none, none, none, none, none, none, none, none, none, none, none, none, some 25, some 26, some 27, some 28, some 29, some 30, some 31, some 32] (by decide) rfl rfl ?_
    refine g_perm perm3.symm ?_
    exact K zs (.ref (qt 0)) SS _ kk nn hs (Or.inr ⟨qt, rfl, rfl⟩) (by omega) (by omega)

set_option maxRecDepth 100000 in
set_option maxHeartbeats 2000000 in
theorem op_30 {X : XT} {cA : Nat → ClassId} {b L : Nat} {xs : Nat → Int32} (C : Cx X cL_law RL (some .boolean) cA 2048 84000 4) (E : Sx X b L xs) (hL : L < 2 ^ 31) (qx qm : Nat → Nat) (j : Nat) (hj : 5 * j + 5 ≤ L) (zs zt : Value) (SS TT : va_W) (kk nn : Nat) (hk : kk + 50 ≤ (x_R X).cells ∧ nn + 8000 ≤ (x_R X).slots) (σ σ' : XS) (μ μ' : MS) (hs : HS cA σ zs SS) (ht : HT cA qx σ zt TT) (v w : Int64) (hx : sx_share (xs (5 * j + 1)) (xs (5 * j + 2)) σ = some (v, σ')) (hm : sm_share (xs (5 * j + 1)) (xs (5 * j + 2)) μ = some (w, μ')) (K : ∀ (zs' zt' : Value) (SS' TT' : va_W) (kk' nn' : Nat), HS cA σ' zs' SS' → HT cA qx σ' zt' TT' → kk' ≤ kk + 50 → nn' ≤ nn + 8000 → Go X 4 kk' nn' 1030 (PW cA qx qm zs' zt' σ' μ' ++ (SS' ++ TT')) [(0, .ref b), (1, .ref (qx 0)), (2, .ref (qm 0)), (3, .int (nI (5 * j)))] []) : Go X 4 kk nn 974 (PW cA qx qm zs zt σ μ ++ (SS ++ TT)) [(0, .ref b), (1, .ref (qx 0)), (2, .ref (qm 0)), (3, .int (nI (5 * j)))] [] := by
  unfold sm_share at hm
  obtain ⟨rm, hrm, hm⟩ := cal_some hm
  obtain ⟨e3, e4⟩ := some_pair hm
  subst e3
  subst e4
  refine g_aload_n C 974 1 dL_law_974 rfl rfl ?_
  refine g_aload_n C 975 0 dL_law_975 rfl rfl ?_
  refine g_iload_n C 976 3 dL_law_976 rfl rfl ?_
  refine g_iconst C 977 (1 : Int32) dL_law_977 (by decide) ?_
  refine g_iadd C 978 dL_law_978 ?_
  refine g_sld C 979 E (5 * j + 1) dL_law_979 (nI_add (5 * j) 1) (by omega) hL ?_
  refine g_aload_n C 980 0 dL_law_980 rfl rfl ?_
  refine g_iload_n C 981 3 dL_law_981 rfl rfl ?_
  refine g_iconst C 982 (2 : Int32) dL_law_982 (by decide) ?_
  refine g_iadd C 983 dL_law_983 ?_
  refine g_sld C 984 E (5 * j + 2) dL_law_984 (nI_add (5 * j) 2) (by omega) hL ?_
  refine xc_op_30 C E hL qx qm j hj zs zt SS TT kk nn hk σ σ' μ hs ht v hx ?_
  intro zs' zt' SS' TT' kk' nn' hs2 ht2 hk1 hn1
  have hk2 : kk' ≤ (x_R X).cells ∧ nn' ≤ (x_R X).slots := ⟨by omega, by omega⟩
  refine g_pop2 C 988 dL_law_988 rfl ?_
  refine g_aload_n C 989 2 dL_law_989 rfl rfl ?_
  refine g_aload_n C 990 0 dL_law_990 rfl rfl ?_
  refine g_iload_n C 991 3 dL_law_991 rfl rfl ?_
  refine g_iconst C 992 (1 : Int32) dL_law_992 (by decide) ?_
  refine g_iadd C 993 dL_law_993 ?_
  refine g_sld C 994 E (5 * j + 1) dL_law_994 (nI_add (5 * j) 1) (by omega) hL ?_
  refine g_aload_n C 995 0 dL_law_995 rfl rfl ?_
  refine g_iload_n C 996 3 dL_law_996 rfl rfl ?_
  refine g_iconst C 997 (2 : Int32) dL_law_997 (by decide) ?_
  refine g_iadd C 998 dL_law_998 ?_
  refine g_sld C 999 E (5 * j + 2) dL_law_999 (nI_add (5 * j) 2) (by omega) hL ?_
  refine g_callB C 1000 (P := PW cA qx qm zs' zt' σ' μ) [29, 30, 31, 32, 34, 35, 37, 38, 39, 40, 41, 42, 43, 44, 45] 29 (rest := []) (P' := PW cA qx qm zs' zt' σ' (μ.1, (vp_updL (vp_updL (vp_updL μ.2.1 0 rm.2.1) 1 rm.2.2.1) 2 rm.2.2.2.1), (va_up (va_up μ.2.2.1 11 rm.2.2.2.2.1) 12 rm.2.2.2.2.2.1), (va_up (va_up (va_up μ.2.2.2 0 rm.2.2.2.2.2.2.1) 1 rm.2.2.2.2.2.2.2.1) 2 rm.2.2.2.2.2.2.2.2))) dL_law_1000 (c_X9_share (x_l X) cA (qm 0) (μ.1 0) (μ.1 1) (qm 4) (μ.1 2) (qm 7) (μ.1 3) (μ.2.1 0) (μ.2.1 1) (μ.2.1 2) (qm 1) (μ.2.2.1 0) (qm 2) (μ.2.2.1 1) (qm 3) (μ.2.2.1 2) (qm 5) (μ.2.2.1 4) (qm 6) (μ.2.2.1 5) (qm 8) (μ.2.2.1 7) (qm 9) (μ.2.2.1 8) (qm 10) (μ.2.2.1 9) (qm 11) (μ.2.2.1 10) (qm 12) (μ.2.2.1 11) (qm 13) (μ.2.2.1 12) (qm 14) (μ.2.2.2 0) (qm 15) (μ.2.2.2 1) (qm 16) (μ.2.2.2 2) (xs (5 * j + 1)) (xs (5 * j + 2)) rm hrm) kw_816 kw_817 kw_818 kw_343 kw_819 ok_X9_share ⟨by decide, by decide⟩ hk2 ⟨rfl, rfl⟩ rfl rfl rfl rfl rfl (Nat.le_of_ble_eq_true rfl) rfl (N0 := 46) rfl [none, none, none, none, none, none, none, none, none, none, none, none, none, none, none, none, none, none, none, none, none, none, none, none, none, none, none, none, none, some 0, some 1, some 2, some 3, none, some 4, some 5, none, some 6, some 7, some 8, some 9, some 10, some 11, some 12, some 13, some 14] (by decide) rfl (st' := [.long rm.1]) rfl ?_
  refine g_pop2 C 1003 dL_law_1003 rfl ?_
  refine g_goto C 1004 1030 dL_law_1004 (by decide) ?_
  exact K zs' zt' SS' TT' kk' nn' hs2 ht2 hk1 hn1

set_option maxRecDepth 100000 in
set_option maxHeartbeats 2000000 in
theorem op_31 {X : XT} {cA : Nat → ClassId} {b L : Nat} {xs : Nat → Int32} (C : Cx X cL_law RL (some .boolean) cA 2048 84000 4) (E : Sx X b L xs) (hL : L < 2 ^ 31) (qx qm : Nat → Nat) (j : Nat) (hj : 5 * j + 5 ≤ L) (zs zt : Value) (SS TT : va_W) (kk nn : Nat) (hk : kk + 50 ≤ (x_R X).cells ∧ nn + 8000 ≤ (x_R X).slots) (σ σ' : XS) (μ μ' : MS) (hs : HS cA σ zs SS) (ht : HT cA qx σ zt TT) (v w : Int32) (hx : sx_count (xs (5 * j + 1)) σ = some (v, σ')) (hm : sm_count (xs (5 * j + 1)) μ = some (w, μ')) (hvw : v = w) (K : ∀ (zs' zt' : Value) (SS' TT' : va_W) (kk' nn' : Nat), HS cA σ' zs' SS' → HT cA qx σ' zt' TT' → kk' ≤ kk + 50 → nn' ≤ nn + 8000 → Go X 4 kk' nn' 1030 (PW cA qx qm zs' zt' σ' μ' ++ (SS' ++ TT')) [(0, .ref b), (1, .ref (qx 0)), (2, .ref (qm 0)), (3, .int (nI (5 * j)))] []) : Go X 4 kk nn 1007 (PW cA qx qm zs zt σ μ ++ (SS ++ TT)) [(0, .ref b), (1, .ref (qx 0)), (2, .ref (qm 0)), (3, .int (nI (5 * j)))] [] := by
  unfold sx_count at hx
  obtain ⟨rx, hrx, hx⟩ := cal_some hx
  obtain ⟨e1, e2⟩ := some_pair hx
  subst e1
  subst e2
  unfold sm_count at hm
  obtain ⟨rm, hrm, hm⟩ := cal_some hm
  obtain ⟨e3, e4⟩ := some_pair hm
  subst e3
  subst e4
  have hk2 : kk ≤ (x_R X).cells ∧ nn ≤ (x_R X).slots := ⟨by omega, by omega⟩
  refine g_aload_n C 1007 1 dL_law_1007 rfl rfl ?_
  refine g_aload_n C 1008 0 dL_law_1008 rfl rfl ?_
  refine g_iload_n C 1009 3 dL_law_1009 rfl rfl ?_
  refine g_iconst C 1010 (1 : Int32) dL_law_1010 (by decide) ?_
  refine g_iadd C 1011 dL_law_1011 ?_
  refine g_sld C 1012 E (5 * j + 1) dL_law_1012 (nI_add (5 * j) 1) (by omega) hL ?_
  refine g_callB C 1013 (P := PW cA qx qm zs zt σ μ) [0, 1, 3, 5, 7, 8, 9, 10] 0 (rest := []) (P' := PW cA qx qm zs zt (σ.1, σ.2.1, σ.2.2.1, σ.2.2.2.1, σ.2.2.2.2) μ) dL_law_1013 (c_X8_count (x_l X) cA (qx 0) (qx 15) (qx 17) zs zt (qx 1) (qx 2) (qx 4) (σ.1 0) (σ.1 1) (qx 3) (σ.2.2.1 1) (qx 5) (qx 6) (σ.1 2) (σ.1 3) (qx 7) (σ.1 4) (qx 8) (σ.2.2.1 4) (qx 9) (σ.2.2.1 5) (qx 10) (σ.1 5) (qx 11) (qx 12) (qx 13) (qx 14) (xs (5 * j + 1)) rx hrx) kw_824 kw_825 kw_826 kw_6 kw_827 ok_X8_count ⟨by decide, by decide⟩ hk2 ⟨rfl, rfl⟩ rfl rfl rfl rfl rfl (Nat.le_of_ble_eq_true rfl) rfl (N0 := 46) rfl [some 0, some 1, none, some 2, none, some 3, none, some 4, some 5, some 6, some 7, none, none, none, none, none, none, none, none, none, none, none, none, none, none, none, none, none, none, none, none, none, none, none, none, none, none, none, none, none, none, none, none, none, none, none] (by decide) rfl (st' := [.int rx]) rfl ?_
  refine g_aload_n C 1016 2 dL_law_1016 rfl rfl ?_
  refine g_aload_n C 1017 0 dL_law_1017 rfl rfl ?_
  refine g_iload_n C 1018 3 dL_law_1018 rfl rfl ?_
  refine g_iconst C 1019 (1 : Int32) dL_law_1019 (by decide) ?_
  refine g_iadd C 1020 dL_law_1020 ?_
  refine g_sld C 1021 E (5 * j + 1) dL_law_1021 (nI_add (5 * j) 1) (by omega) hL ?_
  refine g_callB C 1022 (P := PW cA qx qm zs zt (σ.1, σ.2.1, σ.2.2.1, σ.2.2.2.1, σ.2.2.2.2) μ) [29, 31, 34, 35] 29 (rest := [.int rx]) (P' := PW cA qx qm zs zt (σ.1, σ.2.1, σ.2.2.1, σ.2.2.2.1, σ.2.2.2.2) (μ.1, μ.2.1, μ.2.2.1, μ.2.2.2)) dL_law_1022 (c_X9_count (x_l X) cA (qm 0) (μ.1 0) (qm 1) (qm 3) (μ.1 1) (qm 4) (μ.1 2) (qm 7) (μ.1 3) (qm 8) (qm 9) (qm 10) (qm 11) (qm 12) (qm 13) (qm 14) (qm 15) (qm 16) (μ.2.1 0) (μ.2.1 1) (μ.2.1 2) (qm 2) (μ.2.2.1 1) (qm 5) (μ.2.2.1 4) (qm 6) (μ.2.2.1 5) (xs (5 * j + 1)) rm hrm) kw_828 kw_829 kw_830 kw_343 kw_831 ok_X9_count ⟨by decide, by decide⟩ hk2 ⟨rfl, rfl⟩ rfl rfl rfl rfl rfl (Nat.le_of_ble_eq_true rfl) rfl (N0 := 46) rfl [none, none, none, none, none, none, none, none, none, none, none, none, none, none, none, none, none, none, none, none, none, none, none, none, none, none, none, none, none, some 0, none, some 1, none, none, some 2, some 3, none, none, none, none, none, none, none, none, none, none] (by decide) rfl (st' := [.int rm, .int rx]) rfl ?_
  refine g_icmp_eq C 1025 1030 dL_law_1025 (by decide) (if_pos hvw : (if rx = rm then some () else none) = some ()) (fun _ => ?_) (fun h => by cases h)
  exact K zs zt SS TT kk nn hs ht (by omega) (by omega)
